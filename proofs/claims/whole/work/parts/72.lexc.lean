/-! ===== the pure layer: the class reads a token ===== -/
/-- the tape's characters -/
def tc (I : Nat → Nat → Int32) (k : Nat) : Nat := tn (I 97 k)
def tBy (I : Nat → Nat → Int32) : Prop := ∀ k : Nat, k < 160 → I 36 k = (I 97 k).toInt8.toInt32 ∧ bw (I 97 k) 0 255
theorem tc_byte {I : Nat → Nat → Int32} (h : tBy I) {k : Nat} (hk : k < 160) : (I 36 k).toInt = (if (tc I k : Int) < 128 then (tc I k : Int) else (tc I k : Int) - 256) ∧ tc I k < 256 ∧ (I 97 k).toInt = (tc I k : Int) := by
  obtain ⟨h1, h2⟩ := h k hk
  have h2' := h2
  unfold bw at h2'
  have tt := p_tnc (I 97 k) h2'.1
  have e : (tc I k : Int) = (I 97 k).toInt := tt
  rw [h1, byte_v h2, e]
  exact ⟨rfl, by omega, rfl⟩
theorem c_ws {N : Nat} {ρ : Rh} {J : Nat → Nat → Int64} {sz : Nat} (hsz : sz ≤ 160) : ∀ (e q fuel : Nat) (I : Nat → Nat → Int32), q + e = sz → e < fuel → tBy I → I 35 1 = Int32.ofNat sz → I 35 6 = Int32.ofNat q → ∃ I', f_X8_next_8 N J ρ fuel I = some I' ∧ (∀ b j, ¬ (b = 35 ∧ j = 6) → I' b j = I b j) ∧ I' 35 6 = Int32.ofNat (run (isW (tc I)) sz q)
  | 0, q, fuel + 1, I, z1, z2, hB, h1, h6 => by
    refine ⟨I, ?_, fun _ _ _ => rfl, by rw [h6, run_end (by omega)]⟩
    rw [f_X8_next_8.eq_2, h1, h6, if_pos ((p_ge (by omega) (by omega)).mpr (by omega))]
  | e + 1, q, fuel + 1, I, z1, z2, hB, h1, h6 => by
    obtain ⟨t1, t2, t3⟩ := tc_byte hB (k := q) (by omega)
    have xq := p_ixn (k := q) (n := 160) (by omega) (by omega)
    have tq := p_tnI (n := q) (by omega)
    have go : ∃ I', f_X8_next_8 N J ρ fuel (u2 I 35 6 (Int32.ofNat (q + 1))) = some I' ∧ (∀ b j, ¬ (b = 35 ∧ j = 6) → I' b j = I b j) ∧ I' 35 6 = Int32.ofNat (run (isW (tc I)) sz (q + 1)) := by
      obtain ⟨I', g1, g2, g3⟩ := c_ws (N := N) (ρ := ρ) (J := J) hsz e (q + 1) fuel (u2 I 35 6 (Int32.ofNat (q + 1))) (by omega) (by omega) (fun k hk => by rw [u2_fr (by omega), u2_fr (by omega)]; exact hB k hk) ((u2_fr (by omega)).trans h1) u2_at
      have e : tc (u2 I 35 6 (Int32.ofNat (q + 1))) = tc I := funext fun k => by unfold tc; rw [u2_fr (by omega)]
      rw [e] at g3
      exact ⟨I', g1, fun b j z => (g2 b j z).trans (u2_fr (by omega)), g3⟩
    by_cases hP : isW (tc I) q = true
    · obtain ⟨I', g1, g2, g3⟩ := go
      refine ⟨I', ?_, g2, by rw [g3, run_yes (by omega) hP]⟩
      rw [f_X8_next_8.eq_2, h1, h6, if_neg (fun z => absurd ((p_ge (by omega) (by omega)).mp z) (by omega)), if_pos xq, tq, p_succ (by omega)]
      rw [tq] at xq
      by_cases h32 : tc I q = 32
      · rw [if_pos (p_eq (by rw [t1]; show _ = (32 : Int); omega))]
        exact g1
      · have h10 : tc I q = 10 := (isW_iff.mp hP).resolve_left h32
        rw [if_neg (fun z => h32 (by have := congrArg Int32.toInt z; rw [t1] at this; have e : (32 : Int32).toInt = 32 := rfl; omega)), if_pos xq, if_pos (p_eq (by rw [t1]; show _ = (10 : Int); omega))]
        exact g1
    · have hn := fun z => hP (isW_iff.mpr z)
      refine ⟨I, ?_, fun _ _ _ => rfl, by rw [h6, run_no (by omega) hP]⟩
      rw [f_X8_next_8.eq_2, h1, h6, if_neg (fun z => absurd ((p_ge (by omega) (by omega)).mp z) (by omega)), if_pos xq, tq]
      rw [tq] at xq
      rw [if_neg (fun z => hn (Or.inl (by have := congrArg Int32.toInt z; rw [t1] at this; have e : (32 : Int32).toInt = 32 := rfl; omega))), if_pos xq, if_neg (fun z => hn (Or.inr (by have := congrArg Int32.toInt z; rw [t1] at this; have e : (10 : Int32).toInt = 10 := rfl; omega)))]
theorem c_lt {N : Nat} {ρ : Rh} {J : Nat → Nat → Int64} {sz : Nat} (hsz : sz ≤ 160) : ∀ (e q fuel : Nat) (I : Nat → Nat → Int32), q + e = sz → e < fuel → tBy I → I 35 1 = Int32.ofNat sz → I 35 7 = Int32.ofNat q → ∃ I', f_X8_next_86 N J ρ fuel I = some I' ∧ (∀ b j, ¬ (b = 35 ∧ j = 7) → I' b j = I b j) ∧ I' 35 7 = Int32.ofNat (run (isL (tc I)) sz q)
  | 0, q, fuel + 1, I, z1, z2, hB, h1, h6 => by
    refine ⟨I, ?_, fun _ _ _ => rfl, by rw [h6, run_end (by omega)]⟩
    rw [f_X8_next_86.eq_2, h1, h6, if_pos ((p_ge (by omega) (by omega)).mpr (by omega))]
  | e + 1, q, fuel + 1, I, z1, z2, hB, h1, h6 => by
    obtain ⟨t1, t2, t3⟩ := tc_byte hB (k := q) (by omega)
    have xq := p_ixn (k := q) (n := 160) (by omega) (by omega)
    have tq := p_tnI (n := q) (by omega)
    have go : ∃ I', f_X8_next_86 N J ρ fuel (u2 I 35 7 (Int32.ofNat (q + 1))) = some I' ∧ (∀ b j, ¬ (b = 35 ∧ j = 7) → I' b j = I b j) ∧ I' 35 7 = Int32.ofNat (run (isL (tc I)) sz (q + 1)) := by
      obtain ⟨I', g1, g2, g3⟩ := c_lt (N := N) (ρ := ρ) (J := J) hsz e (q + 1) fuel (u2 I 35 7 (Int32.ofNat (q + 1))) (by omega) (by omega) (fun k hk => by rw [u2_fr (by omega), u2_fr (by omega)]; exact hB k hk) ((u2_fr (by omega)).trans h1) u2_at
      have e : tc (u2 I 35 7 (Int32.ofNat (q + 1))) = tc I := funext fun k => by unfold tc; rw [u2_fr (by omega)]
      rw [e] at g3
      exact ⟨I', g1, fun b j z => (g2 b j z).trans (u2_fr (by omega)), g3⟩
    have hv : f_X8_isLetter N ρ I J (I 36 q) = some (if isL (tc I) q = true then 1 else 0) := by
      by_cases hP : isL (tc I) q = true
      · rw [if_pos hP]
        have hb := isL_iff.mp hP
        have t1' : (I 36 q).toInt = (tc I q : Int) := by rw [t1, if_pos (by omega)]
        unfold f_X8_isLetter
        rw [if_neg (by rw [fa_lt, t1']; show ¬ _ < (97 : Int); omega), if_neg (by rw [fa_lt, t1']; show ¬ (122 : Int) < _; omega)]
      · rw [if_neg hP]
        have hb : ¬ (97 ≤ tc I q ∧ tc I q ≤ 122) := fun z => hP (isL_iff.mpr z)
        unfold f_X8_isLetter
        by_cases a : (I 36 q).toInt < 97
        · rw [if_pos (by rw [fa_lt]; exact a)]
        · rw [if_neg (by rw [fa_lt]; exact a), if_pos (by
            rw [fa_lt]
            show (122 : Int) < _
            by_cases c8 : (tc I q : Int) < 128
            · rw [if_pos c8] at t1; omega
            · rw [if_neg c8] at t1; omega)]
    by_cases hP : isL (tc I) q = true
    · obtain ⟨I', g1, g2, g3⟩ := go
      refine ⟨I', ?_, g2, by rw [g3, run_yes (by omega) hP]⟩
      rw [f_X8_next_86.eq_2, h1, h6, if_neg (fun z => absurd ((p_ge (by omega) (by omega)).mp z) (by omega)), if_pos xq, tq, p_succ (by omega), hv]
      simp only [Option.bind_some]
      rw [if_pos hP, if_neg (by decide)]
      exact g1
    · refine ⟨I, ?_, fun _ _ _ => rfl, by rw [h6, run_no (by omega) hP]⟩
      rw [f_X8_next_86.eq_2, h1, h6, if_neg (fun z => absurd ((p_ge (by omega) (by omega)).mp z) (by omega)), if_pos xq, tq, hv]
      simp only [Option.bind_some]
      rw [if_neg hP, if_pos rfl]
theorem c_dg {N : Nat} {ρ : Rh} {J : Nat → Nat → Int64} {sz : Nat} (hsz : sz ≤ 160) : ∀ (e q fuel : Nat) (I : Nat → Nat → Int32), q + e = sz → e < fuel → tBy I → I 35 1 = Int32.ofNat sz → I 35 7 = Int32.ofNat q → ∃ I', f_X8_next_145 N J ρ fuel I = some I' ∧ (∀ b j, ¬ (b = 35 ∧ j = 7) → I' b j = I b j) ∧ I' 35 7 = Int32.ofNat (run (isD (tc I)) sz q)
  | 0, q, fuel + 1, I, z1, z2, hB, h1, h6 => by
    refine ⟨I, ?_, fun _ _ _ => rfl, by rw [h6, run_end (by omega)]⟩
    rw [f_X8_next_145.eq_2, h1, h6, if_pos ((p_ge (by omega) (by omega)).mpr (by omega))]
  | e + 1, q, fuel + 1, I, z1, z2, hB, h1, h6 => by
    obtain ⟨t1, t2, t3⟩ := tc_byte hB (k := q) (by omega)
    have xq := p_ixn (k := q) (n := 160) (by omega) (by omega)
    have tq := p_tnI (n := q) (by omega)
    have go : ∃ I', f_X8_next_145 N J ρ fuel (u2 I 35 7 (Int32.ofNat (q + 1))) = some I' ∧ (∀ b j, ¬ (b = 35 ∧ j = 7) → I' b j = I b j) ∧ I' 35 7 = Int32.ofNat (run (isD (tc I)) sz (q + 1)) := by
      obtain ⟨I', g1, g2, g3⟩ := c_dg (N := N) (ρ := ρ) (J := J) hsz e (q + 1) fuel (u2 I 35 7 (Int32.ofNat (q + 1))) (by omega) (by omega) (fun k hk => by rw [u2_fr (by omega), u2_fr (by omega)]; exact hB k hk) ((u2_fr (by omega)).trans h1) u2_at
      have e : tc (u2 I 35 7 (Int32.ofNat (q + 1))) = tc I := funext fun k => by unfold tc; rw [u2_fr (by omega)]
      rw [e] at g3
      exact ⟨I', g1, fun b j z => (g2 b j z).trans (u2_fr (by omega)), g3⟩
    have hv : f_X8_isDigit N ρ I J (I 36 q) = some (if isD (tc I) q = true then 1 else 0) := by
      by_cases hP : isD (tc I) q = true
      · rw [if_pos hP]
        have hb := isD_iff.mp hP
        have t1' : (I 36 q).toInt = (tc I q : Int) := by rw [t1, if_pos (by omega)]
        unfold f_X8_isDigit
        rw [if_neg (by rw [fa_lt, t1']; show ¬ _ < (48 : Int); omega), if_neg (by rw [fa_lt, t1']; show ¬ (57 : Int) < _; omega)]
      · rw [if_neg hP]
        have hb : ¬ (48 ≤ tc I q ∧ tc I q ≤ 57) := fun z => hP (isD_iff.mpr z)
        unfold f_X8_isDigit
        by_cases a : (I 36 q).toInt < 48
        · rw [if_pos (by rw [fa_lt]; exact a)]
        · rw [if_neg (by rw [fa_lt]; exact a), if_pos (by
            rw [fa_lt]
            show (57 : Int) < _
            by_cases c8 : (tc I q : Int) < 128
            · rw [if_pos c8] at t1; omega
            · rw [if_neg c8] at t1; omega)]
    by_cases hP : isD (tc I) q = true
    · obtain ⟨I', g1, g2, g3⟩ := go
      refine ⟨I', ?_, g2, by rw [g3, run_yes (by omega) hP]⟩
      rw [f_X8_next_145.eq_2, h1, h6, if_neg (fun z => absurd ((p_ge (by omega) (by omega)).mp z) (by omega)), if_pos xq, tq, p_succ (by omega), hv]
      simp only [Option.bind_some]
      rw [if_pos hP, if_neg (by decide)]
      exact g1
    · refine ⟨I, ?_, fun _ _ _ => rfl, by rw [h6, run_no (by omega) hP]⟩
      rw [f_X8_next_145.eq_2, h1, h6, if_neg (fun z => absurd ((p_ge (by omega) (by omega)).mp z) (by omega)), if_pos xq, tq, hv]
      simp only [Option.bind_some]
      rw [if_neg hP, if_pos rfl]
