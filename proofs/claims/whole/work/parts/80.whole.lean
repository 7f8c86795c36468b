/-! ===== the pure layer: a whole text, the class ===== -/
def rwA (T : Nat → Int32) : Bool × Nat × List Int32 := lvp T 60 false 1 0 0
def rwB (T : Nat → Int32) : Bool × Nat × List Int32 := lvp T 60 false ((rwA T).2.1 + 2) 0 0
/-- does a text stand, and which token tells it -/
def rwP (T : Nat → Int32) : Bool × Nat :=
  if T 0 = -16 then
    (if (rwA T).1 = true then
      (if T (rwA T).2.1 = -20 then
        (if T ((rwA T).2.1 + 1) = -17 then
          (if (rwB T).1 = true then
            (if T (rwB T).2.1 = -20 then
              (if T ((rwB T).2.1 + 1) = -21 then (true, (rwB T).2.1 + 1) else (false, (rwB T).2.1 + 1))
            else (false, (rwB T).2.1))
          else (false, (rwB T).2.1))
        else (false, (rwA T).2.1 + 1))
      else (false, (rwA T).2.1))
    else (false, (rwA T).2.1))
  else (false, 0)
def rwF (I I' : Nat → Nat → Int32) : Prop := ∀ b j, ¬ (b = 35 ∧ (j = 3 ∨ j = 4 ∨ j = 5 ∨ j = 6 ∨ j = 7)) → ¬ b = 37 → I' b j = I b j
theorem cP.half {c : Nat → Nat} {sz i len : Nat} {I : Nat → Nat → Int32} (h : cP c sz I i len) (x : Int32) : cP c sz (u2 I 35 4 x) i len := by
  obtain ⟨h1, h2, h3, h4, h5, h6, h7, h8, h9⟩ := h
  refine ⟨(u2_fr (by omega)).trans h1, (u2_fr (by omega)).trans h2, (u2_fr (by omega)).trans h3, (u2_fr (by omega)).trans h4, (u2_fr (by omega)).trans h5, fun k hk => ?_, ?_, h8, h9⟩
  · rw [u2_fr (by omega), u2_fr (by omega)]; exact h6 k hk
  · rw [← h7]; funext k; unfold tc; rw [u2_fr (by omega)]
theorem c_whole {N : Nat} (hN : 200 ≤ N) {ρ : Rh} {I : Nat → Nat → Int32} {J : Nat → Nat → Int64} {sz : Nat} (hB : tBy I) (hsz : sz ≤ 160) (h1 : I 35 1 = Int32.ofNat sz) : ∃ I', f_X8_readWhole N ρ I J = some (I', if (rwP (tT (tc I) sz)).1 = true then 1 else 0) ∧ rwF I I' ∧ I' 35 6 = Int32.ofNat (lb (tc I) sz (cu (tc I) sz (rwP (tT (tc I) sz)).2)) ∧ ((rwP (tT (tc I) sz)).1 = true → (rwA (tT (tc I) sz)).2.2.length + (rwB (tT (tc I) sz)).2.2.length + 4 ≤ 160 ∧ I' 35 3 = Int32.ofNat ((rwA (tT (tc I) sz)).2.2.length + (rwB (tT (tc I) sz)).2.2.length) ∧ I' 35 4 = Int32.ofNat (rwA (tT (tc I) sz)).2.2.length ∧ ∀ j, j < (rwA (tT (tc I) sz)).2.2.length + (rwB (tT (tc I) sz)).2.2.length → I' 37 j = ((rwA (tT (tc I) sz)).2.2 ++ (rwB (tT (tc I) sz)).2.2).getD j 0) := by
  obtain ⟨c, hc⟩ : ∃ c, c = tc I := ⟨_, rfl⟩
  rw [← hc]
  obtain ⟨T, hT⟩ : ∃ T, T = tT c sz := ⟨_, rfl⟩
  obtain ⟨A, hA⟩ : ∃ A, A = rwA T := ⟨_, rfl⟩
  obtain ⟨B, hBB⟩ : ∃ B, B = rwB T := ⟨_, rfl⟩
  rw [← hT, ← hA, ← hBB]
  have hP : rwP T = (if T 0 = -16 then (if A.1 = true then (if T A.2.1 = -20 then (if T (A.2.1 + 1) = -17 then (if B.1 = true then (if T B.2.1 = -20 then (if T (B.2.1 + 1) = -21 then (true, B.2.1 + 1) else (false, B.2.1 + 1)) else (false, B.2.1)) else (false, B.2.1)) else (false, A.2.1 + 1)) else (false, A.2.1)) else (false, A.2.1)) else (false, 0)) := by
    rw [hA, hBB]; rfl
  -- the first token
  have x1 : (u2 (u2 (u2 I 35 3 0) 35 4 0) 35 7 0) 35 1 = Int32.ofNat sz := ((u2_fr (by omega)).trans ((u2_fr (by omega)).trans (u2_fr (by omega)))).trans h1
  have xB : tBy (u2 (u2 (u2 I 35 3 0) 35 4 0) 35 7 0) := fun k hk => by
    rw [u2_fr (by omega), u2_fr (by omega), u2_fr (by omega), u2_fr (by omega), u2_fr (by omega), u2_fr (by omega)]; exact hB k hk
  have xc : tc (u2 (u2 (u2 I 35 3 0) 35 4 0) 35 7 0) = c := by
    rw [hc]; funext k; unfold tc; rw [u2_fr (by omega), u2_fr (by omega), u2_fr (by omega)]
  obtain ⟨I1, g1, g2, g3, g4, g5⟩ := c_next hN (ρ := ρ) (J := J) xB hsz (Nat.zero_le sz) x1 (u2_at (x := (0 : Int32)))
  rw [xc] at g3 g4 g5
  have P1 : cP c sz I1 0 0 := by
    refine ⟨g5, g3, g4, ?_, (g2 35 1 (by omega)).trans x1, fun k hk => ?_, ?_, Nat.zero_le _, Nat.le_refl _⟩
    · rw [g2 35 3 (by omega), u2_fr (by omega), u2_fr (by omega), u2_at]; rfl
    · rw [g2 36 k (by omega), g2 97 k (by omega)]; exact xB k hk
    · rw [← xc]; funext k; unfold tc; rw [g2 97 k (by omega)]
  have F1 : rwF I I1 := fun b j z1 z2 => (g2 b j (by omega)).trans ((u2_fr (by omega)).trans ((u2_fr (by omega)).trans (u2_fr (by omega))))
  unfold f_X8_readWhole
  rw [g1]
  simp only [Option.bind_some]
  obtain ⟨I2, s1, s2, s3⟩ := c_skip hN (ρ := ρ) (J := J) hsz P1 (w := -16) (by decide)
  have F2 : rwF I I2 := fun b j z1 z2 => (s3 b j (by omega)).trans (F1 b j z1 z2)
  rw [s1]
  simp only [Option.bind_some]
  rw [← hT]
  rw [← hT] at s2
  by_cases q1 : T 0 = -16
  · rw [if_pos q1] at s2 hP
    rw [if_pos q1, if_neg (by decide)]
    obtain ⟨I3, a1, a2, a3⟩ := (c_lvp hN (ρ := ρ) (J := J) (c := c) hsz 60).2 1 0 0 0 I2 (by omega) (by omega) (by omega) s2
    rw [← hT] at a1 a2 a3
    have hA' : lvp T 60 false 1 0 0 = A := hA.symm
    rw [hA'] at a1 a2 a3
    have F3 : rwF I I3 := fun b j z1 z2 => (a2.2.1 b j (by omega) (by omega)).trans (F2 b j z1 z2)
    have v0 : f_X8_lv N ρ I2 J 0 0 = some (I3, if A.1 = true then 1 else 0) := a1
    rw [v0]
    simp only [Option.bind_some]
    have P3 := a2.1
    by_cases q2 : A.1 = true
    · rw [if_pos q2] at hP
      rw [if_pos q2, if_neg (by decide)]
      obtain ⟨I4, b1, b2, b3⟩ := c_skip hN (ρ := ρ) (J := J) hsz P3 (w := -20) (by decide)
      have F4 : rwF I I4 := fun b j z1 z2 => (b3 b j (by omega)).trans (F3 b j z1 z2)
      rw [← hT] at b1 b2
      rw [b1]
      simp only [Option.bind_some]
      by_cases q3 : T A.2.1 = -20
      · rw [if_pos q3] at hP b2
        rw [if_pos q3, if_neg (by decide)]
        have P4 := b2.half (I4 35 3)
        have F4' : rwF I (u2 I4 35 4 (I4 35 3)) := fun b j z1 z2 => (u2_fr (by omega)).trans (F4 b j z1 z2)
        obtain ⟨I5, d1, d2, d3⟩ := c_skip hN (ρ := ρ) (J := J) hsz P4 (w := -17) (by decide)
        have F5 : rwF I I5 := fun b j z1 z2 => (d3 b j (by omega)).trans (F4' b j z1 z2)
        rw [← hT] at d1 d2
        rw [d1]
        simp only [Option.bind_some]
        by_cases q4 : T (A.2.1 + 1) = -17
        · rw [if_pos q4] at hP d2
          rw [if_pos q4, if_neg (by decide)]
          obtain ⟨I6, e1, e2, e3⟩ := (c_lvp hN (ρ := ρ) (J := J) (c := c) hsz 60).2 (A.2.1 + 1 + 1) 0 0 _ I5 (by omega) (by omega) (by omega) d2
          rw [← hT] at e1 e2 e3
          have hB' : lvp T 60 false (A.2.1 + 1 + 1) 0 0 = B := by rw [hBB]; show _ = lvp T 60 false ((rwA T).2.1 + 2) 0 0; rw [← hA]
          rw [hB'] at e1 e2 e3
          have F6 : rwF I I6 := fun b j z1 z2 => (e2.2.1 b j (by omega) (by omega)).trans (F5 b j z1 z2)
          have v1 : f_X8_lv N ρ I5 J 0 0 = some (I6, if B.1 = true then 1 else 0) := e1
          rw [v1]
          simp only [Option.bind_some]
          have P6 := e2.1
          by_cases q5 : B.1 = true
          · rw [if_pos q5] at hP
            rw [if_pos q5, if_neg (by decide)]
            obtain ⟨I7, k1, k2, k3⟩ := c_skip hN (ρ := ρ) (J := J) hsz P6 (w := -20) (by decide)
            have F7 : rwF I I7 := fun b j z1 z2 => (k3 b j (by omega)).trans (F6 b j z1 z2)
            rw [← hT] at k1 k2
            rw [k1]
            simp only [Option.bind_some]
            by_cases q6 : T B.2.1 = -20
            · rw [if_pos q6] at hP k2
              rw [if_pos q6, if_neg (by decide), k2.1, ← hT]
              have l1 := k2.2.2.2.2.2.2.2.1
              have l2 := cu_le (c := c) (sz := sz) (B.2.1 + 1)
              by_cases q7 : T (B.2.1 + 1) = -21
              · rw [if_pos q7] at hP
                rw [if_pos q7, hP]
                refine ⟨I7, rfl, F7, k2.2.1, fun _ => ⟨by omega, ?_, ?_, fun j hj => ?_⟩⟩
                · rw [k2.2.2.2.1, Nat.zero_add]
                · rw [k3 35 4 (by omega), e2.2.1 35 4 (by omega) (by omega), d3 35 4 (by omega), u2_at, b2.2.2.2.1, Nat.zero_add]
                · rw [k3 37 j (by omega), getD_app]
                  by_cases qj : j < A.2.2.length
                  · rw [if_pos qj, e2.2.1 37 j (by omega) (by omega), d3 37 j (by omega), u2_fr (by omega), b3 37 j (by omega)]
                    have := a2.2.2 j qj
                    rw [Nat.zero_add] at this
                    exact this
                  · rw [if_neg qj]
                    have := e2.2.2 (j - A.2.2.length) (by omega)
                    rw [show 0 + A.2.2.length + (j - A.2.2.length) = j by omega] at this
                    exact this
              · rw [if_neg q7] at hP
                rw [if_neg q7, hP]
                exact ⟨I7, rfl, F7, k2.2.1, fun z => Bool.noConfusion z⟩
            · rw [if_neg q6] at hP k2
              rw [if_neg q6, if_pos rfl, hP]
              exact ⟨I7, rfl, F7, k2.2.1, fun z => Bool.noConfusion z⟩
          · rw [if_neg q5] at hP
            rw [if_neg q5, if_pos rfl, hP]
            exact ⟨I6, rfl, F6, P6.2.1, fun z => Bool.noConfusion z⟩
        · rw [if_neg q4] at hP d2
          rw [if_neg q4, if_pos rfl, hP]
          exact ⟨I5, rfl, F5, d2.2.1, fun z => Bool.noConfusion z⟩
      · rw [if_neg q3] at hP b2
        rw [if_neg q3, if_pos rfl, hP]
        exact ⟨I4, rfl, F4, b2.2.1, fun z => Bool.noConfusion z⟩
    · rw [if_neg q2] at hP
      rw [if_neg q2, if_pos rfl, hP]
      exact ⟨I3, rfl, F3, P3.2.1, fun z => Bool.noConfusion z⟩
  · rw [if_neg q1] at s2 hP
    rw [if_neg q1, if_pos rfl, hP]
    exact ⟨I2, rfl, F2, s2.2.1, fun z => Bool.noConfusion z⟩
