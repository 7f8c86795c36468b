/-! ===== the pure layer: homes, in whole parts ===== -/
theorem q_add {a b : Int64} (h1 : -9223372036854775808 ≤ a.toInt + b.toInt) (h2 : a.toInt + b.toInt < 9223372036854775808) : (a + b).toInt = a.toInt + b.toInt := by
  rw [Int64.toInt_add]
  exact Int.bmod_eq_of_le (by omega) (by omega)
theorem q_sub {a b : Int64} (h1 : -9223372036854775808 ≤ a.toInt - b.toInt) (h2 : a.toInt - b.toInt < 9223372036854775808) : (a - b).toInt = a.toInt - b.toInt := by
  rw [Int64.toInt_sub]
  exact Int.bmod_eq_of_le (by omega) (by omega)
theorem q_mul {a b : Int64} (h1 : -9223372036854775808 ≤ a.toInt * b.toInt) (h2 : a.toInt * b.toInt < 9223372036854775808) : (a * b).toInt = a.toInt * b.toInt := by
  rw [Int64.toInt_mul]
  exact Int.bmod_eq_of_le (by omega) (by omega)
theorem q_nL {n : Nat} (h : n < 9223372036854775808) : (Int64.ofNat n).toInt = n := Int64.toInt_ofNat_of_lt (by omega)
theorem q_eq {a b : Int64} (h : a.toInt = b.toInt) : a = b := Int64.toInt_inj.mp h
theorem q_of {a : Int64} {n : Nat} (hn : n < 9223372036854775808) (h : a.toInt = n) : a = Int64.ofNat n := q_eq (by rw [h, q_nL hn])
theorem q_rng (a : Int64) : -9223372036854775808 ≤ a.toInt ∧ a.toInt < 9223372036854775808 := ⟨Int64.le_toInt a, Int64.toInt_lt a⟩
theorem q_div {a b : Int64} (ha : 0 ≤ a.toInt) (hb : 0 < b.toInt) : (a / b).toInt = a.toInt / b.toInt := by
  have r := q_rng a
  have h1 : 0 ≤ a.toInt / b.toInt := Int.ediv_nonneg ha (by omega)
  have h2 : a.toInt / b.toInt ≤ a.toInt := Int.ediv_le_self _ ha
  rw [Int64.toInt_div, Int.tdiv_eq_ediv_of_nonneg ha]
  exact Int.bmod_eq_of_le (by omega) (by omega)
def qq (ch : Nat → Nat) : Nat → Nat
  | 0 => 1
  | d + 1 => qq ch d * (10 - ch d)
def opn (n : Nat) (ch : Nat → Nat) (d : Nat) : Nat := 10 ^ (n - d) * qq ch d
def cms (n : Nat) (ch : Nat → Nat) (d : Nat) : Nat := 10 ^ (n - 1 - d) * qq ch d * ch d
def hom (n : Nat) (ch : Nat → Nat) (al : Nat → Bool) : Nat → Nat
  | 0 => 0
  | d + 1 => hom n ch al d + (if al d = true then cms n ch d else 0)
theorem opn_0 (n : Nat) (ch : Nat → Nat) : opn n ch 0 = 10 ^ n := by unfold opn qq; rw [Nat.sub_zero, Nat.mul_one]
theorem opn_10 {n : Nat} {ch : Nat → Nat} {d : Nat} (h : d < n) : opn n ch d = 10 * (10 ^ (n - 1 - d) * qq ch d) := by
  unfold opn
  rw [show n - d = (n - 1 - d) + 1 by omega, Nat.pow_succ, ← Nat.mul_assoc, Nat.mul_comm 10]
theorem opn_s {n : Nat} {ch : Nat → Nat} {d : Nat} (h : d < n) (hc : ch d ≤ 9) : opn n ch (d + 1) + cms n ch d = opn n ch d := by
  rw [opn_10 h]
  unfold opn cms
  show 10 ^ (n - (d + 1)) * (qq ch d * (10 - ch d)) + _ = _
  rw [show n - (d + 1) = n - 1 - d by omega, ← Nat.mul_assoc, ← Nat.mul_add, show 10 - ch d + ch d = 10 by omega, Nat.mul_comm]
theorem opn_le {n : Nat} {ch : Nat → Nat} (hc : ∀ d, d < n → ch d ≤ 9) : ∀ {d : Nat}, d ≤ n → opn n ch d ≤ 10 ^ n
  | 0, _ => by rw [opn_0]; exact Nat.le_refl _
  | d + 1, h => by
    have := opn_s (ch := ch) (d := d) (n := n) (by omega) (hc d (by omega))
    have := opn_le hc (d := d) (by omega)
    omega
theorem hom_le {n : Nat} {ch : Nat → Nat} {al : Nat → Bool} (hc : ∀ d, d < n → ch d ≤ 9) : ∀ {d : Nat}, d ≤ n → hom n ch al d + opn n ch d ≤ 10 ^ n
  | 0, _ => by rw [opn_0]; unfold hom; omega
  | d + 1, h => by
    have h1 := opn_s (ch := ch) (d := d) (n := n) (by omega) (hc d (by omega))
    have h2 := hom_le (al := al) hc (d := d) (by omega)
    unfold hom
    split <;> omega
theorem pow12 {n : Nat} (h : n ≤ 12) : 10 ^ n ≤ 1000000000000 := by
  have := Nat.pow_le_pow_right (n := 10) (by decide) h
  exact Nat.le_trans this (by decide)
theorem opn_up {n : Nat} {ch : Nat → Nat} {d : Nat} (hn : n ≤ 12) (h : d ≤ n) : opn 12 ch d = 10 ^ (12 - n) * opn n ch d := by
  unfold opn
  rw [← Nat.mul_assoc, ← Nat.pow_add, show 12 - n + (n - d) = 12 - d by omega]
theorem cms_up {n : Nat} {ch : Nat → Nat} {d : Nat} (hn : n ≤ 12) (h : d < n) : cms 12 ch d = 10 ^ (12 - n) * cms n ch d := by
  unfold cms
  rw [← Nat.mul_assoc, ← Nat.mul_assoc, ← Nat.pow_add, show 12 - n + (n - 1 - d) = 12 - 1 - d by omega]
theorem hom_up {n : Nat} {ch : Nat → Nat} {al : Nat → Bool} (hn : n ≤ 12) : ∀ {d : Nat}, d ≤ n → hom 12 ch al d = 10 ^ (12 - n) * hom n ch al d
  | 0, _ => rfl
  | d + 1, h => by
    unfold hom
    rw [hom_up hn (d := d) (by omega), Nat.mul_add, cms_up hn (by omega)]
    split
    · rfl
    · rw [Nat.mul_zero]
/-- one day's arithmetic, in longs -/
theorem day_long {n : Nat} {ch : Nat → Nat} {d : Nat} {c : Int32} (hn : n ≤ 12) (h : d < n) (hc : ∀ d, d < n → ch d ≤ 9) (hcd : c = Int32.ofNat (ch d)) : (Int64.ofNat (opn n ch d) / 10) * c.toInt64 = Int64.ofNat (cms n ch d) ∧ Int64.ofNat (opn n ch d) - Int64.ofNat (cms n ch d) = Int64.ofNat (opn n ch (d + 1)) := by
  have p := pow12 hn
  have o1 := opn_le hc (d := d) (by omega)
  have o2 := opn_le hc (d := d + 1) (by omega)
  have s1 := opn_s (ch := ch) (d := d) (n := n) h (hc d h)
  have t := opn_10 (ch := ch) h
  have c9 := hc d h
  obtain ⟨z, hz⟩ : ∃ z, z = 10 ^ (n - 1 - d) * qq ch d := ⟨_, rfl⟩
  rw [← hz] at t
  have hcm : cms n ch d = z * ch d := by rw [hz]; rfl
  have e0 : (Int64.ofNat (opn n ch d)).toInt = opn n ch d := q_nL (by omega)
  have e1 : (Int64.ofNat (opn n ch d) / 10).toInt = z := by
    rw [q_div (b := 10) (by omega) (by decide), e0, t]
    show ((10 * z : Nat) : Int) / 10 = z
    omega
  have e2 : (c.toInt64).toInt = ch d := by rw [Int32.toInt_toInt64, hcd, p_nI (by omega)]
  have hb : z * ch d ≤ z * 9 := Nat.mul_le_mul_left _ c9
  have e3 : ((z : Int) * (ch d : Int)) = ((z * ch d : Nat) : Int) := by rw [Int.natCast_mul]
  constructor
  · refine q_of (by omega) ?_
    rw [q_mul (by rw [e1, e2, e3]; omega) (by rw [e1, e2, e3]; omega), e1, e2, e3, hcm]
  · have e4 : (Int64.ofNat (cms n ch d)).toInt = cms n ch d := q_nL (by omega)
    refine q_of (by omega) ?_
    rw [q_sub (by omega) (by omega), e0, e4]
    omega
theorem fillL_loop {N : Nat} {I : Nat → Nat → Int32} {ρ : Rh} {a n : Nat} {v : Int64} (hk : ρ.2.1 a = (2, n)) (hn : n < 2147483647) : ∀ (d k fuel : Nat) (J : Nat → Nat → Int64), k + d = n → d < fuel → ∃ J', f_J7_fill_d0a16_6 N I ρ a v (Int32.ofNat n) fuel J (Int32.ofNat k) = some J' ∧ (∀ b j, ¬ b = a → J' b j = J b j) ∧ (∀ j, k ≤ j → j < n → J' a j = v) ∧ (∀ j, j < k → J' a j = J a j)
  | 0, k, fuel + 1, J, h1, h2 => by
    refine ⟨J, ?_, fun _ _ _ => rfl, fun j j1 j2 => absurd j1 (by omega), fun _ _ => rfl⟩
    rw [f_J7_fill_d0a16_6.eq_2, if_pos ((p_ge (by omega) (by omega)).mpr (by omega))]
  | d + 1, k, fuel + 1, J, h1, h2 => by
    obtain ⟨J', g1, g2, g3, g4⟩ := fillL_loop (N := N) (I := I) (v := v) hk hn d (k + 1) fuel (u2 J a k v) (by omega) (by omega)
    refine ⟨J', ?_, fun b j z => (g2 b j z).trans (u2_fr (Or.inl z)), fun j j1 j2 => ?_, fun j j1 => (g4 j (by omega)).trans (u2_fr (Or.inr (by omega)))⟩
    · rw [f_J7_fill_d0a16_6.eq_2, if_neg (fun z => absurd ((p_ge (by omega) (by omega)).mp z) (by omega)), hk, if_pos rfl, if_pos (p_ixn (by omega) (by omega)), p_succ (by omega), p_tnI (by omega)]
      exact g1
    · by_cases hj : j = k
      · subst hj
        rw [g4 j (by omega), u2_at]
      · exact g3 j (by omega) j2
theorem c_addL {N : Nat} {I : Nat → Nat → Int32} {ρ : Rh} {n d : Nat} {c : Int64} (hn : I 42 0 = Int32.ofNat n) (hn8 : n ≤ 8) (hd : d < 13) (hN : 200 ≤ N) (J : Nat → Nat → Int64) : ∃ J', f_X10_addToLiving N ρ I J (Int32.ofNat d) c = some J' ∧ (∀ b j, ¬ b = 78 → J' b j = J b j) ∧ (∀ m, m < n → J' 78 m = if I (50 + d) m ≤ 0 then J 78 m else J 78 m + c) := by
  have loop : ∀ (e k fuel : Nat) (J : Nat → Nat → Int64), k + e = n → e < fuel → ∃ J', f_X10_addToLiving_3 N I ρ (Int32.ofNat d) c fuel J (Int32.ofNat k) = some J' ∧ (∀ b j, ¬ (b = 78 ∧ k ≤ j) → J' b j = J b j) ∧ (∀ m, k ≤ m → m < n → J' 78 m = if I (50 + d) m ≤ 0 then J 78 m else J 78 m + c) := by
    intro e
    induction e with
    | zero =>
      intro k fuel J z1 z2
      cases fuel with
      | zero => omega
      | succ fuel =>
        refine ⟨J, ?_, fun _ _ _ => rfl, fun m m1 m2 => absurd m1 (by omega)⟩
        rw [f_X10_addToLiving_3.eq_2, hn, if_pos ((p_ge (by omega) (by omega)).mpr (by omega))]
    | succ e ih =>
      intro k fuel J z1 z2
      cases fuel with
      | zero => omega
      | succ fuel =>
        have xd := p_ixn (k := d) (n := 13) hd (by omega)
        have xk := p_ixn (k := k) (n := 8) (by omega) (by omega)
        have tk := p_tnI (n := k) (by omega)
        by_cases h0 : I (50 + d) k ≤ 0
        · obtain ⟨J', g1, g2, g3⟩ := ih (k + 1) fuel J (by omega) (by omega)
          refine ⟨J', ?_, fun b j z => g2 b j (by omega), fun m m1 m2 => ?_⟩
          · rw [f_X10_addToLiving_3.eq_2, hn, if_neg (fun z => absurd ((p_ge (by omega) (by omega)).mp z) (by omega)), if_pos xd, if_pos xk, p_tnI (by omega), tk, if_pos h0]
            simp only [Option.bind_some]
            rw [p_succ (by omega)]
            exact g1
          · by_cases hm : m = k
            · subst hm
              rw [g2 78 m (by omega), if_pos h0]
            · exact g3 m (by omega) m2
        · obtain ⟨J', g1, g2, g3⟩ := ih (k + 1) fuel (u2 J 78 k (J 78 k + c)) (by omega) (by omega)
          refine ⟨J', ?_, fun b j z => (g2 b j (by omega)).trans (u2_fr (by omega)), fun m m1 m2 => ?_⟩
          · rw [f_X10_addToLiving_3.eq_2, hn, if_neg (fun z => absurd ((p_ge (by omega) (by omega)).mp z) (by omega)), if_pos xd, if_pos xk, p_tnI (by omega)]
            rw [tk] at xk ⊢
            rw [if_neg h0, if_pos xk, if_pos xk]
            simp only [Option.bind_some]
            rw [p_succ (by omega)]
            exact g1
          · by_cases hm : m = k
            · subst hm
              rw [g2 78 m (by omega), u2_at, if_neg h0]
            · rw [g3 m (by omega) m2, u2_fr (by omega)]
  obtain ⟨J', g1, g2, g3⟩ := loop n 0 N J (by omega) (by omega)
  refine ⟨J', ?_, fun b j z => g2 b j (by omega), fun m hm => g3 m (Nat.zero_le _) hm⟩
  unfold f_X10_addToLiving
  rw [show Int32.ofNat 0 = (0 : Int32) from rfl] at g1
  rw [g1]
  rfl
