/-! ===== the pure layer: lowest terms ===== -/
theorem mod_long {a b : Nat} (ha : a < 9223372036854775808) (hb : b < 9223372036854775808) (h0 : 0 < b) : Int64.ofNat a - Int64.ofNat a / Int64.ofNat b * Int64.ofNat b = Int64.ofNat (a % b) := by
  have e1 := q_nL ha
  have e2 := q_nL hb
  have hd : a / b * b ≤ a := Nat.div_mul_le_self a b
  have hm : a / b * b + a % b = a := by rw [Nat.mul_comm]; exact Nat.div_add_mod a b
  have e3 : (Int64.ofNat a / Int64.ofNat b).toInt = ((a / b : Nat) : Int) := by
    rw [q_div (by omega) (by omega), e1, e2]; exact (Int.natCast_ediv a b).symm
  have e4 : (Int64.ofNat a / Int64.ofNat b * Int64.ofNat b).toInt = ((a / b * b : Nat) : Int) := by
    have t : ((a / b : Nat) : Int) * (b : Int) = ((a / b * b : Nat) : Int) := (Int.natCast_mul _ _).symm
    rw [q_mul (by rw [e3, e2, t]; omega) (by rw [e3, e2, t]; omega), e3, e2, t]
  refine q_of (by omega) ?_
  rw [q_sub (by omega) (by omega), e1, e4]
  omega
theorem q_ne0 {b : Nat} (hb : b < 9223372036854775808) (h0 : 0 < b) : ¬ Int64.ofNat b = 0 := by
  intro z
  have := congrArg Int64.toInt z
  rw [q_nL hb] at this
  have e : (0 : Int64).toInt = 0 := rfl
  omega
theorem gcd_c {N : Nat} {I : Nat → Nat → Int32} {J : Nat → Nat → Int64} {ρ : Rh} {p1 : Int64} {p2 : Int32} : ∀ (k a b i fuel : Nat), b < 2 ^ k → a < 9223372036854775808 → b < 9223372036854775808 → i + 2 * k < 100 → 2 * k < fuel → f_X11_inLowestTerms_13 N I J ρ p1 p2 fuel (Int64.ofNat a) (Int64.ofNat b) (Int32.ofNat i) = some (Int64.ofNat (Nat.gcd a b))
  | 0, a, b, i, fuel + 1, h1, h2, h3, h4, h5 => by
    have : b = 0 := by omega
    subst this
    rw [f_X11_inLowestTerms_13.eq_2, if_neg (by rw [fa_le, p_nI (by omega)]; show ¬ (100 : Int) ≤ _; omega), if_pos (show Int64.ofNat 0 = 0 from rfl), Nat.gcd_zero_right]
  | k + 1, a, b, i, fuel + 1, h1, h2, h3, h4, h5 => by
    by_cases hb : b = 0
    · subst hb
      rw [f_X11_inLowestTerms_13.eq_2, if_neg (by rw [fa_le, p_nI (by omega)]; show ¬ (100 : Int) ≤ _; omega), if_pos (show Int64.ofNat 0 = 0 from rfl), Nat.gcd_zero_right]
    · have hb0 : 0 < b := by omega
      have hr : a % b < b := Nat.mod_lt _ hb0
      rw [f_X11_inLowestTerms_13.eq_2, if_neg (by rw [fa_le, p_nI (by omega)]; show ¬ (100 : Int) ≤ _; omega), if_neg (q_ne0 h3 hb0), if_pos (q_ne0 h3 hb0), mod_long h2 h3 hb0, p_succ (by omega)]
      have g1 : Nat.gcd a b = Nat.gcd b (a % b) := by rw [Nat.gcd_comm a b, Nat.gcd_rec, Nat.gcd_comm]
      cases fuel with
      | zero => omega
      | succ fuel =>
        by_cases hc : a % b = 0
        · rw [hc] at g1 ⊢
          rw [f_X11_inLowestTerms_13.eq_2, if_neg (by rw [fa_le, p_nI (by omega)]; show ¬ (100 : Int) ≤ _; omega), if_pos (show Int64.ofNat 0 = 0 from rfl), g1, Nat.gcd_zero_right]
        · have hc0 : 0 < a % b := by omega
          rw [f_X11_inLowestTerms_13.eq_2, if_neg (by rw [fa_le, p_nI (by omega)]; show ¬ (100 : Int) ≤ _; omega), if_neg (q_ne0 (by omega) hc0), if_pos (q_ne0 (by omega) hc0), mod_long h3 (by omega) hc0, p_succ (by omega)]
          have hr2 : b % (a % b) < a % b := Nat.mod_lt _ hc0
          have hm := Nat.div_add_mod b (a % b)
          have hq : 1 ≤ b / (a % b) := (Nat.one_le_div_iff hc0).mpr (by omega)
          have hmul : a % b ≤ (a % b) * (b / (a % b)) := Nat.le_mul_of_pos_right _ hq
          rw [gcd_c k (a % b) (b % (a % b)) (i + 1 + 1) fuel (by rw [Nat.pow_succ] at h1; omega) (by omega) (by omega) (by omega) (by omega), g1]
          rw [Nat.gcd_comm b (a % b), Nat.gcd_rec (a % b) b, Nat.gcd_comm]
theorem gcd_m {N : Nat} {I : Nat → Nat → Int32} {J : Nat → Nat → Int64} {ρ : Rh} {p1 p2 : Int64} {p3 : Int32} : ∀ (k a b fuel : Nat), b < 2 ^ k → a < 9223372036854775808 → b < 9223372036854775808 → 2 * k < fuel → f_X12_lowest_27 N I J ρ p1 p2 p3 fuel (Int64.ofNat a) (Int64.ofNat b) = some (Int64.ofNat (Nat.gcd a b))
  | 0, a, b, fuel + 1, h1, h2, h3, h5 => by
    have : b = 0 := by omega
    subst this
    rw [f_X12_lowest_27.eq_2, if_pos (show Int64.ofNat 0 = 0 from rfl), Nat.gcd_zero_right]
  | k + 1, a, b, fuel + 1, h1, h2, h3, h5 => by
    by_cases hb : b = 0
    · subst hb
      rw [f_X12_lowest_27.eq_2, if_pos (show Int64.ofNat 0 = 0 from rfl), Nat.gcd_zero_right]
    · have hb0 : 0 < b := by omega
      have hr : a % b < b := Nat.mod_lt _ hb0
      rw [f_X12_lowest_27.eq_2, if_neg (q_ne0 h3 hb0), if_pos (q_ne0 h3 hb0), mod_long h2 h3 hb0]
      have g1 : Nat.gcd a b = Nat.gcd b (a % b) := by rw [Nat.gcd_comm a b, Nat.gcd_rec, Nat.gcd_comm]
      cases fuel with
      | zero => omega
      | succ fuel =>
        by_cases hc : a % b = 0
        · rw [hc] at g1 ⊢
          rw [f_X12_lowest_27.eq_2, if_pos (show Int64.ofNat 0 = 0 from rfl), g1, Nat.gcd_zero_right]
        · have hc0 : 0 < a % b := by omega
          rw [f_X12_lowest_27.eq_2, if_neg (q_ne0 (by omega) hc0), if_pos (q_ne0 (by omega) hc0), mod_long h3 (by omega) hc0]
          have hr2 : b % (a % b) < a % b := Nat.mod_lt _ hc0
          have hm := Nat.div_add_mod b (a % b)
          have hq : 1 ≤ b / (a % b) := (Nat.one_le_div_iff hc0).mpr (by omega)
          have hmul : a % b ≤ (a % b) * (b / (a % b)) := Nat.le_mul_of_pos_right _ hq
          rw [gcd_m k (a % b) (b % (a % b)) fuel (by rw [Nat.pow_succ] at h1; omega) (by omega) (by omega) (by omega), g1]
          rw [Nat.gcd_comm b (a % b), Nat.gcd_rec (a % b) b, Nat.gcd_comm]
theorem q_neg {a : Int64} (h : -9223372036854775808 < a.toInt) : (-a).toInt = -a.toInt := by
  have r := q_rng a
  rw [Int64.toInt_neg]
  exact Int.bmod_eq_of_le (by omega) (by omega)
theorem q_abs {a : Int64} (h : -9223372036854775808 < a.toInt) : (if 0 < a then a else -a) = Int64.ofNat a.toInt.natAbs := by
  have r := q_rng a
  refine q_eq ?_
  rw [q_nL (by omega)]
  by_cases h0 : 0 < a.toInt
  · rw [if_pos (by rw [fa_lt64]; exact h0)]; omega
  · rw [if_neg (by rw [fa_lt64]; exact h0), q_neg h]; omega
theorem q_abs' {a : Int64} (h : -9223372036854775808 < a.toInt) : (if 0 ≤ a then a else -a) = Int64.ofNat a.toInt.natAbs := by
  have r := q_rng a
  refine q_eq ?_
  rw [q_nL (by omega)]
  by_cases h0 : 0 ≤ a.toInt
  · rw [if_pos (by rw [fa_le64]; exact h0)]; omega
  · rw [if_neg (by rw [fa_le64]; exact h0), q_neg h]; omega
/-- an exact quotient of longs -/
theorem q_exact {a b : Int64} {q : Int} (hb : 0 < b.toInt) (h : a.toInt = q * b.toInt) : (a / b).toInt = q := by
  have r := q_rng a
  have e : a.toInt.tdiv b.toInt = q := by rw [h]; exact Int.mul_tdiv_cancel q (by omega)
  rw [Int64.toInt_div, e]
  have h1 : q ≤ a.toInt ∨ a.toInt ≤ q := by omega
  have hb1 : 1 ≤ b.toInt := by omega
  by_cases hq : 0 ≤ q
  · have : q * 1 ≤ q * b.toInt := Int.mul_le_mul_of_nonneg_left hb1 hq
    exact Int.bmod_eq_of_le (by omega) (by omega)
  · have : (-q) * 1 ≤ (-q) * b.toInt := Int.mul_le_mul_of_nonneg_left hb1 (by omega)
    have e2 : (-q) * b.toInt = -(q * b.toInt) := Int.neg_mul q b.toInt
    exact Int.bmod_eq_of_le (by omega) (by omega)
theorem low_two {N : Nat} (hN : 200 ≤ N) {ρ ρ' : Rh} {I I' : Nat → Nat → Int32} {J J' : Nat → Nat → Int64} {A B : Int64} {D : Nat} {z : Int} {part : Int32} (hD : D ≤ 12) (hA : A.toInt = (10 ^ (12 - D) : Nat) * z) (hB : B.toInt = z) (hz : z.natAbs ≤ 8 * 10 ^ D) (hp : part = 0 ∨ part = 1) : ∃ v, f_X11_inLowestTerms N ρ I J A part = some v ∧ f_X12_lowest N ρ' I' J' B (Int64.ofNat (10 ^ D)) part = some v := by
  have p12 : 10 ^ (12 - D) * 10 ^ D = 1000000000000 := by rw [← Nat.pow_add, show 12 - D + D = 12 by omega]
  have pD := pow12 hD
  have pD0 : 0 < 10 ^ D := Nat.pow_pos (by decide)
  obtain ⟨c, hc⟩ : ∃ c, c = 10 ^ (12 - D) := ⟨_, rfl⟩
  obtain ⟨w, hw⟩ : ∃ w, w = 10 ^ D := ⟨_, rfl⟩
  rw [← hc] at hA p12
  rw [← hw] at hz pD pD0 p12 ⊢
  have hc0 : 0 < c := by rw [hc]; exact Nat.pow_pos (by decide)
  have habs : A.toInt.natAbs = c * z.natAbs := by rw [hA, Int.natAbs_mul]; rfl
  have hbig : c * z.natAbs ≤ c * (8 * w) := Nat.mul_le_mul_left _ hz
  have hbig2 : c * (8 * w) = 8 * 1000000000000 := by rw [← p12, Nat.mul_left_comm]
  have hg : Nat.gcd 1000000000000 (c * z.natAbs) = c * Nat.gcd w z.natAbs := by rw [← p12, Nat.gcd_mul_left]
  obtain ⟨g, hgd⟩ : ∃ g, g = Nat.gcd w z.natAbs := ⟨_, rfl⟩
  have hg0 : 0 < g := by rw [hgd]; exact Nat.gcd_pos_of_pos_left _ pD0
  have hgw : g ∣ w := by rw [hgd]; exact Nat.gcd_dvd_left _ _
  have hgz : g ∣ z.natAbs := by rw [hgd]; exact Nat.gcd_dvd_right _ _
  have hgle : g ≤ w := Nat.le_of_dvd pD0 hgw
  obtain ⟨w', hw'⟩ := hgw
  obtain ⟨q, hq⟩ : ∃ q : Int, z = q * g := by
    obtain ⟨y, hy⟩ := hgz
    rcases Int.natAbs_eq z with e | e
    · exact ⟨y, by rw [e, hy, Int.natCast_mul, Int.mul_comm]⟩
    · exact ⟨-y, by rw [e, hy, Int.natCast_mul, Int.neg_mul, Int.mul_comm]⟩
  have hcg : c * g ≤ c * w := Nat.mul_le_mul_left _ hgle
  have hcg0 : 0 < c * g := Nat.mul_pos hc0 hg0
  have C : f_X11_inLowestTerms_13 N I J ρ A part N (1000000000000 : Int64) (if 0 < A then A else -A) 0 = some (Int64.ofNat (c * g)) := by
    rw [q_abs (by omega), habs]
    have := gcd_c (N := N) (I := I) (J := J) (ρ := ρ) (p1 := A) (p2 := part) 43 1000000000000 (c * z.natAbs) 0 N (by omega) (by omega) (by omega) (by omega) (by omega)
    rw [hg, ← hgd] at this
    exact this
  have ecg : (Int64.ofNat (c * g)).toInt = ((c * g : Nat) : Int) := q_nL (by omega)
  have hne := q_ne0 (b := c * g) (by omega) hcg0
  have hgne := q_ne0 (b := g) (by omega) hg0
  have eg : (Int64.ofNat g).toInt = (g : Int) := q_nL (by omega)
  have v0 : (A / Int64.ofNat (c * g)).toInt = q := q_exact (by omega) (by rw [hA, ecg, hq, Int.natCast_mul, ← Int.mul_assoc, ← Int.mul_assoc, Int.mul_comm (c : Int) q])
  have v1 : ((1000000000000 : Int64) / Int64.ofNat (c * g)).toInt = (w' : Int) := q_exact (by omega) (by
    show (1000000000000 : Int) = _
    rw [ecg, ← Int.natCast_mul, show w' * (c * g) = 1000000000000 from by rw [← p12, hw', Nat.mul_left_comm, Nat.mul_comm g w']]
    rfl)
  have cl0 : f_X11_inLowestTerms N ρ I J A part = some (if part = 0 then A / Int64.ofNat (c * g) else (1000000000000 : Int64) / Int64.ofNat (c * g)) := by
    unfold f_X11_inLowestTerms
    rw [C]
    simp only [Option.bind_some]
    rw [if_neg hne, if_pos hne, if_pos hne]
    split <;> rfl
  by_cases hz0 : z = 0
  · refine ⟨_, cl0, ?_⟩
    have hB0 : B = 0 := q_eq (by rw [hB, hz0]; rfl)
    unfold f_X12_lowest
    rw [if_pos hB0]
    have hq0 : q = 0 := by
      rw [hz0] at hq
      have : (0 : Int) = q * g := hq
      rcases Int.mul_eq_zero.mp this.symm with h | h
      · exact h
      · omega
    have hgw2 : g = w := by rw [hgd, hz0]; exact Nat.gcd_zero_right w
    have hw1 : w' = 1 := by
      rw [hgw2] at hw'
      exact Nat.eq_of_mul_eq_mul_left pD0 (by rw [← hw', Nat.mul_one])
    rcases hp with hp | hp <;> subst hp
    · rw [if_pos rfl]
      congr 1
      exact q_eq (by rw [v0, hq0]; rfl)
    · rw [if_neg (by decide)]
      congr 1
      exact q_eq (by rw [v1, hw1]; rfl)
  · have hB0 : ¬ B = 0 := fun y => hz0 (by rw [← hB, y]; rfl)
    have M : f_X12_lowest_27 N I' J' ρ' B (Int64.ofNat w) part N (Int64.ofNat z.natAbs) (Int64.ofNat w) = some (Int64.ofNat g) := by
      have := gcd_m (N := N) (I := I') (J := J') (ρ := ρ') (p1 := B) (p2 := Int64.ofNat w) (p3 := part) 43 z.natAbs w N (by omega) (by omega) (by omega) (by omega)
      rw [Nat.gcd_comm, ← hgd] at this
      exact this
    have J1 : (if (0 : Int64) ≤ B then some B else some (-B)) = some (Int64.ofNat z.natAbs) := by
      rw [show (if (0 : Int64) ≤ B then some B else some (-B)) = some (if (0 : Int64) ≤ B then B else -B) from by split <;> rfl, q_abs' (by omega), hB]
    have ew : (Int64.ofNat w).toInt = (w : Int) := q_nL (by omega)
    have u0 : (B / Int64.ofNat g).toInt = q := q_exact (by omega) (by rw [hB, eg, hq])
    have u1 : (Int64.ofNat w / Int64.ofNat g).toInt = (w' : Int) := q_exact (by omega) (by rw [ew, eg, ← Int.natCast_mul, hw', Nat.mul_comm])
    refine ⟨_, cl0, ?_⟩
    unfold f_X12_lowest
    rw [if_neg hB0, J1]
    simp only [Option.bind_some]
    rw [M]
    simp only [Option.bind_some]
    rcases hp with hp | hp <;> subst hp
    · rw [if_pos rfl]
      simp only [Option.bind_some]
      rw [if_pos hgne, if_pos trivial]
      congr 1
      exact q_eq (by rw [u0, v0])
    · rw [if_neg (by decide)]
      simp only [Option.bind_some]
      rw [if_pos hgne, if_neg (by decide)]
      congr 1
      exact q_eq (by rw [u1, v1])
