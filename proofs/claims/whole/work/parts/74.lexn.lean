/-! ===== the pure layer: next of the class ===== -/
theorem c_next {N : Nat} (hN : 200 ≤ N) {ρ : Rh} {I : Nat → Nat → Int32} {J : Nat → Nat → Int64} {sz p : Nat} (hB : tBy I) (hsz : sz ≤ 160) (hp : p ≤ sz) (h1 : I 35 1 = Int32.ofNat sz) (h7 : I 35 7 = Int32.ofNat p) : ∃ I', f_X8_next N ρ I J = some I' ∧ (∀ b j, ¬ (b = 35 ∧ (j = 5 ∨ j = 6 ∨ j = 7)) → I' b j = I b j) ∧ I' 35 6 = Int32.ofNat (lb (tc I) sz p) ∧ I' 35 7 = Int32.ofNat (le (tc I) sz p) ∧ I' 35 5 = lk (tc I) sz p := by
  obtain ⟨lb1, lb2⟩ := lb_bw (c := tc I) hp
  have tB : ∀ X : Nat → Nat → Int32, (∀ k, X 36 k = I 36 k) → (∀ k, X 97 k = I 97 k) → tBy X := fun X x1 x2 k hk => by rw [x1, x2]; exact hB k hk
  have tcE : ∀ X : Nat → Nat → Int32, (∀ k, X 97 k = I 97 k) → tc X = tc I := fun X x2 => funext fun k => by unfold tc; rw [x2]
  obtain ⟨I1, a1, a2, a3⟩ := c_ws (N := N) (ρ := ρ) (J := J) hsz (sz - p) p N (u2 I 35 6 (Int32.ofNat p)) (by omega) (by omega) (tB _ (fun k => u2_fr (by omega)) (fun k => u2_fr (by omega))) ((u2_fr (by omega)).trans h1) u2_at
  rw [tcE _ (fun k => u2_fr (by omega))] at a3
  have A : ∀ b j, ¬ (b = 35 ∧ j = 6) → I1 b j = I b j := fun b j z => (a2 b j z).trans (u2_fr (by omega))
  have a1' : f_X8_next_8 N J ρ N (u2 I 35 6 (I 35 7)) = some I1 := by rw [h7]; exact a1
  have e1 : I1 35 1 = Int32.ofNat sz := (A 35 1 (by omega)).trans h1
  have e6 : I1 35 6 = Int32.ofNat (lb (tc I) sz p) := a3
  unfold f_X8_next
  rw [a1']
  simp only [Option.bind_some]
  rw [e6, e1]
  by_cases hb : lb (tc I) sz p < sz
  · rw [if_pos ((p_lt (by omega) (by omega)).mpr hb)]
    obtain ⟨I2, b1, b2, b3⟩ := c_lt (N := N) (ρ := ρ) (J := J) hsz (sz - lb (tc I) sz p) (lb (tc I) sz p) N (u2 I1 35 7 (Int32.ofNat (lb (tc I) sz p))) (by omega) (by omega) (tB _ (fun k => (u2_fr (by omega)).trans (A _ k (by omega))) (fun k => (u2_fr (by omega)).trans (A _ k (by omega)))) ((u2_fr (by omega)).trans e1) u2_at
    rw [tcE _ (fun k => (u2_fr (by omega)).trans (A _ k (by omega)))] at b3
    have B : ∀ b j, ¬ (b = 35 ∧ (j = 6 ∨ j = 7)) → I2 b j = I b j := fun b j z => (b2 b j (by omega)).trans ((u2_fr (by omega)).trans (A b j (by omega)))
    have f6 : I2 35 6 = Int32.ofNat (lb (tc I) sz p) := (b2 35 6 (by omega)).trans ((u2_fr (by omega)).trans e6)
    have f1 : I2 35 1 = Int32.ofNat sz := (B 35 1 (by omega)).trans h1
    rw [b1]
    simp only [Option.bind_some]
    rw [b3, f6]
    by_cases hL : isL (tc I) (lb (tc I) sz p) = true
    · obtain ⟨q1, q2, q3, q4⟩ := run_all (P := isL (tc I)) (sz := sz) (sz - lb (tc I) sz p) (lb (tc I) sz p) (by omega)
      have q5 : lb (tc I) sz p < run (isL (tc I)) sz (lb (tc I) sz p) := by
        obtain ⟨r1, r2, r3, r4⟩ := run_all (P := isL (tc I)) (sz := sz) (sz - lb (tc I) sz p - 1) (lb (tc I) sz p + 1) (by omega)
        rw [run_yes hb hL]; omega
      obtain ⟨n, hn⟩ : ∃ n, run (isL (tc I)) sz (lb (tc I) sz p) = lb (tc I) sz p + n := ⟨run (isL (tc I)) sz (lb (tc I) sz p) - lb (tc I) sz p, by omega⟩
      have cw := c_word hN (ρ := ρ) (I := I2) (J := J) (b := lb (tc I) sz p) (n := n) (tB _ (fun k => B _ k (by omega)) (fun k => B _ k (by omega))) (by omega) f6 (by rw [b3, hn]) (fun i hi => by rw [tcE _ (fun k => B _ k (by omega))]; exact isL_iff.mp (q3 _ (by omega) (by omega)))
      rw [tcE _ (fun k => B _ k (by omega))] at cw
      rw [if_neg (fun z => absurd ((p_ge (by omega) (by omega)).mp z) (by omega)), cw]
      refine ⟨_, rfl, fun b j z => (u2_fr (by omega)).trans (B b j (by omega)), (u2_fr (by omega)).trans f6, ?_, ?_⟩
      · rw [u2_fr (by omega), b3]
        unfold le
        rw [if_pos hb, if_pos hL]
      · rw [u2_at]
        unfold lk
        rw [if_pos hb, if_pos hL, hn, Nat.add_sub_cancel_left]
    · have e0 : run (isL (tc I)) sz (lb (tc I) sz p) = lb (tc I) sz p := run_no hb hL
      rw [e0] at b3
      rw [e0, if_pos ((p_ge (by omega) (by omega)).mpr (Nat.le_refl _))]
      obtain ⟨I3, d1, d2, d3⟩ := c_dg (N := N) (ρ := ρ) (J := J) hsz (sz - lb (tc I) sz p) (lb (tc I) sz p) N I2 (by omega) (by omega) (tB _ (fun k => B _ k (by omega)) (fun k => B _ k (by omega))) f1 b3
      rw [tcE _ (fun k => B _ k (by omega))] at d3
      have D : ∀ b j, ¬ (b = 35 ∧ (j = 6 ∨ j = 7)) → I3 b j = I b j := fun b j z => (d2 b j (by omega)).trans (B b j z)
      have g6 : I3 35 6 = Int32.ofNat (lb (tc I) sz p) := (d2 35 6 (by omega)).trans f6
      rw [d1]
      simp only [Option.bind_some]
      rw [d3, g6]
      by_cases hD : isD (tc I) (lb (tc I) sz p) = true
      · obtain ⟨q1, q2, q3, q4⟩ := run_all (P := isD (tc I)) (sz := sz) (sz - lb (tc I) sz p) (lb (tc I) sz p) (by omega)
        have q5 : lb (tc I) sz p < run (isD (tc I)) sz (lb (tc I) sz p) := by
          obtain ⟨r1, r2, r3, r4⟩ := run_all (P := isD (tc I)) (sz := sz) (sz - lb (tc I) sz p - 1) (lb (tc I) sz p + 1) (by omega)
          rw [run_yes hb hD]; omega
        obtain ⟨n, hn⟩ : ∃ n, run (isD (tc I)) sz (lb (tc I) sz p) = lb (tc I) sz p + n := ⟨run (isD (tc I)) sz (lb (tc I) sz p) - lb (tc I) sz p, by omega⟩
        have cw := c_number hN (ρ := ρ) (I := I3) (J := J) (b := lb (tc I) sz p) (n := n) (tB _ (fun k => D _ k (by omega)) (fun k => D _ k (by omega))) (by omega) g6 (by rw [d3, hn]) (fun i hi => by rw [tcE _ (fun k => D _ k (by omega))]; exact isD_iff.mp (q3 _ (by omega) (by omega)))
        rw [tcE _ (fun k => D _ k (by omega))] at cw
        rw [if_neg (fun z => absurd ((p_ge (by omega) (by omega)).mp z) (by omega)), cw]
        refine ⟨_, rfl, fun b j z => (u2_fr (by omega)).trans (D b j (by omega)), (u2_fr (by omega)).trans g6, ?_, ?_⟩
        · rw [u2_fr (by omega), d3]
          unfold le
          rw [if_pos hb, if_neg hL, if_pos hD]
        · rw [u2_at]
          unfold lk
          rw [if_pos hb, if_neg hL, if_pos hD, hn, Nat.add_sub_cancel_left]
      · have e9 : run (isD (tc I)) sz (lb (tc I) sz p) = lb (tc I) sz p := run_no hb hD
        rw [e9, if_pos ((p_ge (by omega) (by omega)).mpr (Nat.le_refl _)), if_pos (p_ixn (by omega) (by omega)), p_tnI (by omega)]
        have cs := c_sign (N := N) (ρ := ρ) (I := I3) (X := u2 I3 35 7 (Int32.ofNat (lb (tc I) sz p) + 1)) (J := J) (q := lb (tc I) sz p) (tB _ (fun k => D _ k (by omega)) (fun k => D _ k (by omega))) (by omega)
        rw [tcE _ (fun k => D _ k (by omega))] at cs
        rw [cs]
        refine ⟨_, rfl, fun b j z => (u2_fr (by omega)).trans ((u2_fr (by omega)).trans (D b j (by omega))), (u2_fr (by omega)).trans ((u2_fr (by omega)).trans g6), ?_, ?_⟩
        · rw [u2_fr (by omega), u2_at, p_succ (by omega)]
          unfold le
          rw [if_pos hb, if_neg hL, if_neg hD]
        · rw [u2_at]
          unfold lk
          rw [if_pos hb, if_neg hL, if_neg hD]
  · rw [if_neg (fun z => hb ((p_lt (by omega) (by omega)).mp z))]
    refine ⟨_, rfl, fun b j z => (u2_fr (by omega)).trans ((u2_fr (by omega)).trans (A b j (by omega))), (u2_fr (by omega)).trans ((u2_fr (by omega)).trans e6), ?_, ?_⟩
    · rw [u2_fr (by omega), u2_at]
      unfold le
      rw [if_neg hb]
    · rw [u2_at]
      unfold lk
      rw [if_neg hb]
