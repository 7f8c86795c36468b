/-! ===== the pure layer: the model reads a token ===== -/
def mtok (t : Int32) : Int32 := if 0 ≤ t.toInt then 1 else if t = -16 then 3 else if t = -17 then 3 else if -6 ≤ t.toInt then 2 else if t = -9 then 4 else if t = -10 then 5 else if t = -8 then 6 else if t = -18 then 40 else if t = -19 then 41 else if t = -15 then 42 else if t = -13 then 43 else if t = -14 then 45 else if t = -20 then 59 else if t = -11 then 60 else if t = -12 then 61 else if t = -21 then 0 else -1
def mval (t : Int32) : Int32 := if 0 ≤ t.toInt then t else if t = -16 then 0 else if t = -17 then 1 else -1 - t
def mTk (I : Nat → Nat → Int32) (t : Int32) : Prop := I 89 39 = mtok t ∧ ((0 ≤ t.toInt ∨ t = -16 ∨ t = -17 ∨ (-6 ≤ t.toInt ∧ t.toInt < 0)) → I 89 40 = mval t)
theorem m_ws {N : Nat} {ρ : Rh} {J : Nat → Nat → Int64} {sz : Nat} (hsz : sz ≤ 160) : ∀ (e q fuel : Nat) (I : Nat → Nat → Int32), q + e = sz → e < fuel → tBy I → I 89 14 = Int32.ofNat sz → I 89 37 = Int32.ofNat q → ∃ I', f_X12_next_0 N J ρ fuel I = some I' ∧ (∀ b j, ¬ (b = 89 ∧ j = 37) → I' b j = I b j) ∧ I' 89 37 = Int32.ofNat (run (isW (tc I)) sz q)
  | 0, q, fuel + 1, I, z1, z2, hB, h1, h6 => by
    refine ⟨I, ?_, fun _ _ _ => rfl, by rw [h6, run_end (by omega)]⟩
    rw [f_X12_next_0.eq_2, h1, h6, if_pos ((p_ge (by omega) (by omega)).mpr (by omega))]
  | e + 1, q, fuel + 1, I, z1, z2, hB, h1, h6 => by
    obtain ⟨t1, t2, t3⟩ := tc_byte hB (k := q) (by omega)
    have xq := p_ixn (k := q) (n := 160) (by omega) (by omega)
    have tq := p_tnI (n := q) (by omega)
    have go : ∃ I', f_X12_next_0 N J ρ fuel (u2 I 89 37 (Int32.ofNat (q + 1))) = some I' ∧ (∀ b j, ¬ (b = 89 ∧ j = 37) → I' b j = I b j) ∧ I' 89 37 = Int32.ofNat (run (isW (tc I)) sz (q + 1)) := by
      obtain ⟨I', g1, g2, g3⟩ := m_ws (N := N) (ρ := ρ) (J := J) hsz e (q + 1) fuel (u2 I 89 37 (Int32.ofNat (q + 1))) (by omega) (by omega) (fun k hk => by rw [u2_fr (by omega), u2_fr (by omega)]; exact hB k hk) ((u2_fr (by omega)).trans h1) u2_at
      have e : tc (u2 I 89 37 (Int32.ofNat (q + 1))) = tc I := funext fun k => by unfold tc; rw [u2_fr (by omega)]
      rw [e] at g3
      exact ⟨I', g1, fun b j z => (g2 b j z).trans (u2_fr (by omega)), g3⟩
    by_cases hP : isW (tc I) q = true
    · obtain ⟨I', g1, g2, g3⟩ := go
      refine ⟨I', ?_, g2, by rw [g3, run_yes (by omega) hP]⟩
      rw [f_X12_next_0.eq_2, h1, h6, if_neg (fun z => absurd ((p_ge (by omega) (by omega)).mp z) (by omega)), if_pos xq, tq, p_succ (by omega)]
      rw [tq] at xq
      by_cases h32 : tc I q = 32
      · rw [if_pos (p_eq (by rw [t3]; show _ = (32 : Int); omega))]
        exact g1
      · have h10 : tc I q = 10 := (isW_iff.mp hP).resolve_left h32
        rw [if_neg (fun z => h32 (by have := congrArg Int32.toInt z; rw [t3] at this; have e : (32 : Int32).toInt = 32 := rfl; omega)), if_pos xq, if_pos (p_eq (by rw [t3]; show _ = (10 : Int); omega))]
        exact g1
    · have hn := fun z => hP (isW_iff.mpr z)
      refine ⟨I, ?_, fun _ _ _ => rfl, by rw [h6, run_no (by omega) hP]⟩
      rw [f_X12_next_0.eq_2, h1, h6, if_neg (fun z => absurd ((p_ge (by omega) (by omega)).mp z) (by omega)), if_pos xq, tq]
      rw [tq] at xq
      rw [if_neg (fun z => hn (Or.inl (by have := congrArg Int32.toInt z; rw [t3] at this; have e : (32 : Int32).toInt = 32 := rfl; omega))), if_pos xq, if_neg (fun z => hn (Or.inr (by have := congrArg Int32.toInt z; rw [t3] at this; have e : (10 : Int32).toInt = 10 := rfl; omega)))]
theorem pack_l {x c : Nat} (hx : x < 1099511627776) (hc : c < 256) : (Int64.ofNat x <<< ((8 : Int32).toInt64 &&& 63)) ||| Int64.ofNat c = Int64.ofNat (x * 256 + c) := by
  have e8 : (8 : Int32).toInt64 &&& 63 = 8 := by decide
  rw [e8]
  apply Int64.toBitVec_inj.mp
  rw [Int64.toBitVec_or, Int64.toBitVec_shiftLeft]
  apply BitVec.eq_of_toNat_eq
  have e : (Int64.toBitVec 8).smod 64 = 8#64 := by decide
  rw [e, Int64.toBitVec_ofNat', Int64.toBitVec_ofNat', Int64.toBitVec_ofNat', BitVec.toNat_or, BitVec.shiftLeft_eq', BitVec.toNat_shiftLeft, BitVec.toNat_ofNat, BitVec.toNat_ofNat, BitVec.toNat_ofNat, Nat.shiftLeft_eq]
  rw [BitVec.toNat_ofNat]
  have e3 : x % 2 ^ 64 * 2 ^ (8 % 2 ^ 64) % 2 ^ 64 = 2 ^ 8 * x := by
    rw [show (8 : Nat) % 2 ^ 64 = 8 from by decide]
    omega
  have e4 : c % 2 ^ 64 = c := by omega
  rw [e3, e4, ← Nat.two_pow_add_eq_or_of_lt (show c < 2 ^ 8 by omega)]
  omega
theorem pkN_lt {c : Nat → Nat} {b : Nat} : ∀ {n : Nat}, (∀ i, i < n → c (b + i) < 256) → pkN c b n < 256 ^ n
  | 0, _ => by show (0 : Nat) < 1; decide
  | n + 1, h => by
    have h1 := pkN_lt (c := c) (b := b) (n := n) (fun i hi => h i (by omega))
    have h2 := h n (by omega)
    unfold pkN
    rw [Nat.pow_succ]
    omega
theorem m_lets {N : Nat} {ρ : Rh} {J : Nat → Nat → Int64} {sz b : Nat} (hsz : sz ≤ 160) : ∀ (e j fuel : Nat) (q2 : Int64) (I : Nat → Nat → Int32), b + j + e = sz → e < fuel → tBy I → I 89 14 = Int32.ofNat sz → I 89 37 = Int32.ofNat (b + j) → (j ≤ 5 → q2 = Int64.ofNat (pkN (tc I) b j)) → ∃ (n : Nat) (I' : Nat → Nat → Int32) (q : Int64), f_X12_letters_4 N J ρ fuel I q2 (Int32.ofNat j) = some (I', q, Int32.ofNat n) ∧ (∀ b j, ¬ (b = 89 ∧ j = 37) → I' b j = I b j) ∧ I' 89 37 = Int32.ofNat (b + n) ∧ b + n = run (isL (tc I)) sz (b + j) ∧ (n ≤ 5 → q = Int64.ofNat (pkN (tc I) b n))
  | 0, j, fuel + 1, q2, I, z1, z2, hB, h1, h6, hq => by
    refine ⟨j, I, q2, ?_, fun _ _ _ => rfl, h6, by rw [run_end (by omega)], hq⟩
    rw [f_X12_letters_4.eq_2, h1, h6, if_pos ((p_ge (by omega) (by omega)).mpr (by omega))]
  | e + 1, j, fuel + 1, q2, I, z1, z2, hB, h1, h6, hq => by
    obtain ⟨t1, t2, t3⟩ := tc_byte hB (k := b + j) (by omega)
    have xq := p_ixn (k := b + j) (n := 160) (by omega) (by omega)
    have tq := p_tnI (n := b + j) (by omega)
    by_cases hP : isL (tc I) (b + j) = true
    · have hb := isL_iff.mp hP
      have htc : tc (u2 I 89 37 (Int32.ofNat (b + (j + 1)))) = tc I := funext fun k => by unfold tc; rw [u2_fr (by omega)]
      obtain ⟨n, I', q, g1, g2, g3, g4, g5⟩ := m_lets (N := N) (ρ := ρ) (J := J) (b := b) hsz e (j + 1) fuel (if 8 ≤ Int32.ofNat j then q2 else (q2 <<< ((8 : Int32).toInt64 &&& 63)) ||| (I 97 (b + j)).toInt64) (u2 I 89 37 (Int32.ofNat (b + (j + 1)))) (by omega) (by omega) (fun k hk => by rw [u2_fr (by omega), u2_fr (by omega)]; exact hB k hk) ((u2_fr (by omega)).trans h1) u2_at (by
        intro hj5
        rw [htc, if_neg (by rw [fa_le, p_nI (by omega)]; show ¬ (8 : Int) ≤ _; omega), hq (by omega)]
        have hlt : pkN (tc I) b j < 256 ^ j := pkN_lt (fun i hi => by
          have := (tc_byte hB (k := b + i) (by omega)).2.1
          exact this)
        have h4 := Nat.pow_le_pow_right (n := 256) (by decide) (show j ≤ 4 by omega)
        have h5 : (256 : Nat) ^ 4 = 4294967296 := by decide
        have ec : (I 97 (b + j)).toInt64 = Int64.ofNat (tc I (b + j)) := q_of (by omega) (by rw [Int32.toInt_toInt64]; exact t3)
        rw [ec, pack_l (by omega) t2]
        rfl)
      rw [htc] at g4 g5
      refine ⟨n, I', q, ?_, fun b' j' z => (g2 b' j' z).trans (u2_fr (by omega)), g3, by rw [g4, run_yes (by omega) hP, Nat.add_assoc], g5⟩
      rw [f_X12_letters_4.eq_2, h1, h6, if_neg (fun z => absurd ((p_ge (by omega) (by omega)).mp z) (by omega)), if_pos xq, tq, m_in]
      rw [tq] at xq
      simp only [Option.bind_some, p_b01]
      rw [if_neg (by rw [t3]; show ¬ ¬ ((97 : Int) ≤ _ ∧ _ ≤ (122 : Int)); omega), if_pos xq]
      rw [show (if (8 : Int32) ≤ Int32.ofNat j then some q2 else some ((q2 <<< ((8 : Int32).toInt64 &&& 63)) ||| (I 97 (b + j)).toInt64)) = some (if (8 : Int32) ≤ Int32.ofNat j then q2 else (q2 <<< ((8 : Int32).toInt64 &&& 63)) ||| (I 97 (b + j)).toInt64) from by split <;> rfl]
      simp only [Option.bind_some]
      rw [p_succ (by omega), p_succ (by omega)]
      exact g1
    · have hn : ¬ (97 ≤ tc I (b + j) ∧ tc I (b + j) ≤ 122) := fun z => hP (isL_iff.mpr z)
      refine ⟨j, I, q2, ?_, fun _ _ _ => rfl, h6, by rw [run_no (by omega) hP], hq⟩
      rw [f_X12_letters_4.eq_2, h1, h6, if_neg (fun z => absurd ((p_ge (by omega) (by omega)).mp z) (by omega)), if_pos xq, tq, m_in]
      simp only [Option.bind_some, p_b01]
      rw [if_pos (by rw [t3]; show ¬ ((97 : Int) ≤ _ ∧ _ ≤ (122 : Int)); omega)]
theorem m_digs {N : Nat} {ρ : Rh} {J : Nat → Nat → Int64} {sz b : Nat} (hsz : sz ≤ 160) : ∀ (e j fuel : Nat) (I : Nat → Nat → Int32), b + j + e = sz → e < fuel → tBy I → I 89 14 = Int32.ofNat sz → I 89 37 = Int32.ofNat (b + j) → (∀ i, i < j → tc I (b + i) ≤ 57 ∧ 48 ≤ tc I (b + i)) → (j ≤ 4 → I 89 40 = Int32.ofNat (nvN (tc I) b j)) → ∃ (n : Nat) (I' : Nat → Nat → Int32), f_X12_next_214 N J ρ fuel I (Int32.ofNat j) = some (I', Int32.ofNat n) ∧ (∀ b j, ¬ (b = 89 ∧ (j = 37 ∨ j = 40)) → I' b j = I b j) ∧ I' 89 37 = Int32.ofNat (b + n) ∧ b + n = run (isD (tc I)) sz (b + j) ∧ (n ≤ 4 → I' 89 40 = Int32.ofNat (nvN (tc I) b n))
  | 0, j, fuel + 1, I, z1, z2, hB, h1, h6, hd, hq => by
    refine ⟨j, I, ?_, fun _ _ _ => rfl, h6, by rw [run_end (by omega)], hq⟩
    rw [f_X12_next_214.eq_2, h1, h6, if_pos ((p_ge (by omega) (by omega)).mpr (by omega))]
  | e + 1, j, fuel + 1, I, z1, z2, hB, h1, h6, hd, hq => by
    obtain ⟨t1, t2, t3⟩ := tc_byte hB (k := b + j) (by omega)
    have xq := p_ixn (k := b + j) (n := 160) (by omega) (by omega)
    have tq := p_tnI (n := b + j) (by omega)
    by_cases hP : isD (tc I) (b + j) = true
    · have hb := isD_iff.mp hP
      obtain ⟨v, hv⟩ : ∃ v, v = (if 4 ≤ Int32.ofNat j then (0 : Int32) else ((10 * (I 89 40)) + (I 97 (b + j))) - 48) := ⟨_, rfl⟩
      have htc : tc (u2 (u2 I 89 40 v) 89 37 (Int32.ofNat (b + (j + 1)))) = tc I := funext fun k => by unfold tc; rw [u2_fr (by omega), u2_fr (by omega)]
      obtain ⟨n, I', g1, g2, g3, g4, g5⟩ := m_digs (N := N) (ρ := ρ) (J := J) (b := b) hsz e (j + 1) fuel (u2 (u2 I 89 40 v) 89 37 (Int32.ofNat (b + (j + 1)))) (by omega) (by omega) (fun k hk => by rw [u2_fr (by omega), u2_fr (by omega), u2_fr (by omega), u2_fr (by omega)]; exact hB k hk) ((u2_fr (by omega)).trans ((u2_fr (by omega)).trans h1)) u2_at (fun i hi => by
        rw [htc]
        by_cases q : i = j
        · subst q; omega
        · exact hd i (by omega)) (by
        intro hj4
        rw [htc, u2_fr (by omega), u2_at, hv, if_neg (by rw [fa_le, p_nI (by omega)]; show ¬ (4 : Int) ≤ _; omega), hq (by omega)]
        have h1 := nvN_le (c := tc I) (b := b) (n := j) (fun i hi => (hd i hi).1)
        have h2 := Nat.pow_le_pow_right (n := 10) (by decide) (show j ≤ 3 by omega)
        have h3 : (10 : Nat) ^ 3 = 1000 := by decide
        have s1 := p_nI (n := nvN (tc I) b j) (by omega)
        have m1 : (10 * Int32.ofNat (nvN (tc I) b j)).toInt = 10 * (nvN (tc I) b j : Int) := by
          rw [p_mul (a := 10) (by rw [s1]; show _ ≤ (10 : Int) * _; omega) (by rw [s1]; show (10 : Int) * _ < _; omega), s1]; rfl
        have m2 : (10 * Int32.ofNat (nvN (tc I) b j) + I 97 (b + j)).toInt = 10 * (nvN (tc I) b j : Int) + (tc I (b + j) : Int) := by
          rw [p_add (by omega) (by omega), m1, t3]
        have e1 : nvN (tc I) b (j + 1) = 10 * nvN (tc I) b j + (tc I (b + j) - 48) := rfl
        refine p_eq ?_
        rw [p_sub (b := 48) (by rw [m2]; show _ ≤ _ - (48 : Int); omega) (by rw [m2]; show _ - (48 : Int) < _; omega), m2, p_nI (by omega), e1]
        show _ - (48 : Int) = _
        omega)
      rw [htc] at g4 g5
      refine ⟨n, I', ?_, fun b' j' z => (g2 b' j' z).trans ((u2_fr (by omega)).trans (u2_fr (by omega))), g3, by rw [g4, run_yes (by omega) hP, Nat.add_assoc], g5⟩
      rw [f_X12_next_214.eq_2, h1, h6, if_neg (fun z => absurd ((p_ge (by omega) (by omega)).mp z) (by omega)), if_pos xq, tq, m_in]
      rw [tq] at xq
      simp only [Option.bind_some, p_b01]
      rw [if_neg (by rw [t3]; show ¬ ¬ ((48 : Int) ≤ _ ∧ _ ≤ (57 : Int)); omega), if_pos xq]
      rw [show (if (4 : Int32) ≤ Int32.ofNat j then some (0 : Int32) else some (((10 * (I 89 40)) + (I 97 (b + j))) - 48)) = some v from by rw [hv]; split <;> rfl]
      simp only [Option.bind_some]
      rw [p_succ (by omega), p_succ (by omega)]
      exact g1
    · have hn : ¬ (48 ≤ tc I (b + j) ∧ tc I (b + j) ≤ 57) := fun z => hP (isD_iff.mpr z)
      refine ⟨j, I, ?_, fun _ _ _ => rfl, h6, by rw [run_no (by omega) hP], hq⟩
      rw [f_X12_next_214.eq_2, h1, h6, if_neg (fun z => absurd ((p_ge (by omega) (by omega)).mp z) (by omega)), if_pos xq, tq, m_in]
      simp only [Option.bind_some, p_b01]
      rw [if_pos (by rw [t3]; show ¬ ((48 : Int) ≤ _ ∧ _ ≤ (57 : Int)); omega)]
/-- the words' index in the model's order -/
def wfx (w : Int64) : Nat := if wdJ 0 = w then 0 else if wdJ 1 = w then 1 else if wdJ 2 = w then 2 else if wdJ 3 = w then 3 else if wdJ 4 = w then 4 else if wdJ 5 = w then 5 else if wdJ 6 = w then 6 else if wdJ 7 = w then 7 else if wdJ 8 = w then 8 else if wdJ 9 = w then 9 else if wdJ 10 = w then 10 else 11
theorem m_find {N : Nat} (hN : 200 ≤ N) {ρ : Rh} {X : Nat → Nat → Int32} {J : Nat → Nat → Int64} (hw : vWords J) (w : Int64) : f_X12_next_111 N X J ρ w N 0 = some (Int32.ofNat (wfx w)) := by
  have st : ∀ (M f i : Nat), i < 11 → f_X12_next_111 M X J ρ w (f + 1) (Int32.ofNat i) = if wdJ i = w then some (Int32.ofNat i) else f_X12_next_111 M X J ρ w f (Int32.ofNat (i + 1)) := by
    intro M f i hi
    rw [f_X12_next_111.eq_2, if_neg (by rw [fa_le, p_nI (by omega)]; show ¬ (11 : Int) ≤ _; omega), if_pos (p_ixn hi (by omega)), p_tnI (by omega), hw i hi, p_succ (by omega)]
  obtain ⟨n, rfl⟩ : ∃ n, N = n + 12 := ⟨N - 12, by omega⟩
  unfold wfx
  rw [show (0 : Int32) = Int32.ofNat 0 from rfl]
  rw [st _ _ 0 (by decide)]
  by_cases a0 : wdJ 0 = w
  · rw [if_pos a0, if_pos a0]
  rw [if_neg a0, if_neg a0]
  rw [st _ _ 1 (by decide)]
  by_cases a1 : wdJ 1 = w
  · rw [if_pos a1, if_pos a1]
  rw [if_neg a1, if_neg a1]
  rw [st _ _ 2 (by decide)]
  by_cases a2 : wdJ 2 = w
  · rw [if_pos a2, if_pos a2]
  rw [if_neg a2, if_neg a2]
  rw [st _ _ 3 (by decide)]
  by_cases a3 : wdJ 3 = w
  · rw [if_pos a3, if_pos a3]
  rw [if_neg a3, if_neg a3]
  rw [st _ _ 4 (by decide)]
  by_cases a4 : wdJ 4 = w
  · rw [if_pos a4, if_pos a4]
  rw [if_neg a4, if_neg a4]
  rw [st _ _ 5 (by decide)]
  by_cases a5 : wdJ 5 = w
  · rw [if_pos a5, if_pos a5]
  rw [if_neg a5, if_neg a5]
  rw [st _ _ 6 (by decide)]
  by_cases a6 : wdJ 6 = w
  · rw [if_pos a6, if_pos a6]
  rw [if_neg a6, if_neg a6]
  rw [st _ _ 7 (by decide)]
  by_cases a7 : wdJ 7 = w
  · rw [if_pos a7, if_pos a7]
  rw [if_neg a7, if_neg a7]
  rw [st _ _ 8 (by decide)]
  by_cases a8 : wdJ 8 = w
  · rw [if_pos a8, if_pos a8]
  rw [if_neg a8, if_neg a8]
  rw [st _ _ 9 (by decide)]
  by_cases a9 : wdJ 9 = w
  · rw [if_pos a9, if_pos a9]
  rw [if_neg a9, if_neg a9]
  rw [st _ _ 10 (by decide)]
  by_cases a10 : wdJ 10 = w
  · rw [if_pos a10, if_pos a10]
  rw [if_neg a10, if_neg a10]
  rw [f_X12_next_111.eq_2, if_pos (by decide)]
