/-! ===== the pure layer: a whole text, the model, its end ===== -/
def mT (t : Nat) (X X' : Nat → Nat → Int32) : Prop := ∀ b j, ¬ (b = 89 ∧ 37 ≤ j ∧ j ≤ 45) → ¬ b = 111 → ¬ (b = 98 ∧ 200 * t ≤ j ∧ j < 200 * t + 200) → ¬ (b = 99 ∧ 4 * t ≤ j ∧ j ≤ 4 * t + 2) → X' b j = X b j
theorem mGf.toT {t n p : Nat} {X X' : Nat → Nat → Int32} (h : mGf t n p X X') (hp : p ≤ 2) : mT t X X' := fun b j z1 z2 z3 z4 => h b j z1 z2 (by omega) (by omega)
theorem mT.tr {t : Nat} {X X1 X2 : Nat → Nat → Int32} (h : mT t X X1) (h2 : mT t X1 X2) : mT t X X2 := fun b j z1 z2 z3 z4 => (h2 b j z1 z2 z3 z4).trans (h b j z1 z2 z3 z4)
theorem m_stop {N : Nat} {J : Nat → Nat → Int64} {ρ : Rh} {fuel p : Nat} {X : Nat → Nat → Int32} {g : Int32} (hp : p ≤ 2) (h : p = 2 ∨ g = 0) : f_X12_text_26 N J ρ (fuel + 1) X g (Int32.ofNat p) = some (X, g) := by
  rw [f_X12_text_26.eq_2]
  by_cases q : p = 2
  · rw [if_pos (by rw [q]; decide)]
  · have nx : ¬ (2 : Int32) ≤ Int32.ofNat p := by rw [fa_le, p_nI (by omega)]; show ¬ (2 : Int) ≤ _; omega
    rw [if_neg nx, if_pos (h.resolve_left q)]
def mEnd (N : Nat) (ρ : Rh) (J : Nat → Nat → Int64) (j9 : (Nat → Nat → Int32) × Int32) : Option (Int32 × (Nat → Nat → Int32)) := if (j9.2 = (0 : Int32)) then some (j9.2, j9.1) else (Option.bind (f_X12_next N ρ j9.1 J) fun v10 => (((if ((v10 89 39) = (0 : Int32)) then some (1 : Int32) else some (0 : Int32)) : Option (Int32)).bind fun j11 => some (j11, v10)))
theorem m_textB {N : Nat} (hN : 1000 ≤ N) {ρ : Rh} {J : Nat → Nat → Int64} (hw : vWords J) {c : Nat → Nat} {sz t f : Nat} (hsz : sz ≤ 160) (ht : t < 6) (hT : ∀ i, 160 ≤ i → tT c sz i = -21) {X : Nat → Nat → Int32} (hR : mPo c sz 0 X) (h17 : X 89 17 = Int32.ofNat t) (h45 : X 89 45 = Int32.ofNat 0) : ∃ X', (Option.bind (f_X12_text_26 N J ρ (f + 3) X 1 0) (mEnd N ρ J)) = some (if (rwP (tT c sz)).1 = true then 1 else 0, X') ∧ mT t X X' ∧ X' 89 38 = Int32.ofNat (lb c sz (cu c sz (rwP (tT c sz)).2)) ∧ ((rwP (tT c sz)).1 = true → wr t 0 X' ((rwA (tT c sz)).2.2 ++ (rwB (tT c sz)).2.2) ∧ X' 89 45 = Int32.ofNat ((rwA (tT c sz)).2.2.length + (rwB (tT c sz)).2.2.length) ∧ X' 99 (4 * t) = Int32.ofNat 0 ∧ X' 99 (4 * t + 1) = Int32.ofNat (rwA (tT c sz)).2.2.length) := by
  obtain ⟨T, hTe⟩ : ∃ T, T = tT c sz := ⟨_, rfl⟩
  obtain ⟨A, hA⟩ : ∃ A, A = rwA T := ⟨_, rfl⟩
  obtain ⟨B, hB⟩ : ∃ B, B = rwB T := ⟨_, rfl⟩
  have hP : rwP T = (if T 0 = -16 then (if A.1 = true then (if T A.2.1 = -20 then (if T (A.2.1 + 1) = -17 then (if B.1 = true then (if T B.2.1 = -20 then (if T (B.2.1 + 1) = -21 then (true, B.2.1 + 1) else (false, B.2.1 + 1)) else (false, B.2.1)) else (false, B.2.1)) else (false, A.2.1 + 1)) else (false, A.2.1)) else (false, A.2.1)) else (false, 0)) := by
    rw [hA, hB]; rfl
  have hT' : ∀ i, 160 ≤ i → T i = -21 := by rw [hTe]; exact hT
  have stop0 : ∀ (Y : Nat → Nat → Int32), Option.bind (some (Y, (0 : Int32))) (mEnd N ρ J) = some (0, Y) := by
    intro Y
    show mEnd N ρ J (Y, 0) = _
    unfold mEnd
    rw [if_pos rfl]
  obtain ⟨X1, g1, e1, F1, h1⟩ := m_round hN (ρ := ρ) (fuel := f + 2) hw hsz ht hT (p := 0) (i := 0) (n := 0) (by omega) (by omega) (by omega) hR h17 h45
  have e1' : f_X12_text_26 N J ρ (f + 3) X 1 0 = f_X12_text_26 N J ρ (f + 2) X1 g1 (Int32.ofNat (0 + 1)) := e1
  rw [e1', ← hTe, ← hA, ← hB]
  rw [← hTe] at h1
  have T1 := F1.toT (by omega)
  have fail : ∀ (Y : Nat → Nat → Int32) (pos : Nat), rwP T = (false, pos) → mT t X Y → Y 89 38 = Int32.ofNat (lb c sz (cu c sz pos)) → ∃ X', some ((0 : Int32), Y) = some (if (rwP T).1 = true then 1 else 0, X') ∧ mT t X X' ∧ X' 89 38 = Int32.ofNat (lb c sz (cu c sz (rwP T).2)) ∧ ((rwP T).1 = true → wr t 0 X' (A.2.2 ++ B.2.2) ∧ X' 89 45 = Int32.ofNat (A.2.2.length + B.2.2.length) ∧ X' 99 (4 * t) = Int32.ofNat 0 ∧ X' 99 (4 * t + 1) = Int32.ofNat A.2.2.length) := by
    intro Y pos y1 y2 y3
    rw [y1]
    exact ⟨Y, rfl, y2, y3, fun z => absurd z Bool.false_ne_true⟩
  rcases h1 with ⟨q1, gg, hi1, k38, kR, kw, k45, kle, k99⟩ | ⟨q1, gg, k38⟩
  · rw [if_pos rfl] at q1
    rw [if_pos q1] at hP
    obtain ⟨s1, s2, s3, s4, s5⟩ := sim_top hT' (i := 0 + 1) (by omega)
    obtain ⟨M, hM⟩ : ∃ M, M = mr T (0 + 1) [] 0 2 := ⟨_, rfl⟩
    have hA' : lvp T 60 false (0 + 1) 0 0 = A := hA.symm
    rw [hA'] at s1 s2 s3 s4 s5
    rw [← hM] at gg k38 kR kw k45 kle s1 s2 s3
    rw [s1] at k38 kR kle
    by_cases ok : M.1 = true
    · rw [if_pos ok] at gg
      obtain ⟨p1, p2⟩ := s2.mp ok
      have s3' := s3 ok
      rw [s3', Nat.zero_add] at k45 kle
      rw [s3'] at kw
      rw [if_pos p1, if_pos p2] at hP
      have hlt := no_end hT' (i := A.2.1) (by rw [p2]; decide)
      rw [gg]
      have h17' : X1 89 17 = Int32.ofNat t := (F1 89 17 (by omega) (by omega) (by omega) (by omega)).trans h17
      obtain ⟨X2, g2, e2, F2, h2⟩ := m_round hN (ρ := ρ) (fuel := f + 1) hw hsz ht hT (p := 1) (i := A.2.1 + 1) (n := A.2.2.length) (by omega) (by omega) (by omega) kR h17' k45
      have e2' : f_X12_text_26 N J ρ (f + 2) X1 1 (Int32.ofNat (0 + 1)) = f_X12_text_26 N J ρ (f + 1) X2 g2 (Int32.ofNat (1 + 1)) := e2
      rw [e2', m_stop (by omega) (.inl rfl)]
      rw [← hTe] at h2
      have T2 := T1.tr (F2.toT (by omega))
      rcases h2 with ⟨u1, ug, ui1, u38, uR, uw', u45, ule, u99⟩ | ⟨u1, ug, u38⟩
      · rw [if_neg (by decide)] at u1
        rw [if_pos u1] at hP
        obtain ⟨v1, v2, v3, v4, v5⟩ := sim_top hT' (i := A.2.1 + 1 + 1) (by omega)
        obtain ⟨M2, hM2⟩ : ∃ M2, M2 = mr T (A.2.1 + 1 + 1) [] 0 2 := ⟨_, rfl⟩
        have hB' : lvp T 60 false (A.2.1 + 1 + 1) 0 0 = B := by rw [hB]; show _ = lvp T 60 false ((rwA T).2.1 + 2) 0 0; rw [← hA]
        rw [hB'] at v1 v2 v3 v4 v5
        rw [← hM2] at ug u38 uR uw' u45 ule v1 v2 v3
        rw [v1] at u38 uR ule
        by_cases ok2 : M2.1 = true
        · rw [if_pos ok2] at ug
          obtain ⟨w1, w2⟩ := v2.mp ok2
          have v3' := v3 ok2
          rw [v3'] at uw' u45 ule
          rw [if_pos w1, if_pos w2] at hP
          rw [ug]
          obtain ⟨X3, y1, y2, y3, y4, y5⟩ := m_nx (N := N) (by omega) (ρ := ρ) hw hsz uR
          rw [← hTe] at y5
          obtain ⟨_, _, _, _, _, _, _, m8, _⟩ := mtk_iff (T (B.2.1 + 1))
          have T3 : mT t X X3 := T2.tr (fun b j z1 z2 z3 z4 => y2 b j (by omega))
          have en : Option.bind (some (X2, (1 : Int32))) (mEnd N ρ J) = some (if T (B.2.1 + 1) = -21 then 1 else 0, X3) := by
            show mEnd N ρ J (X2, 1) = _
            unfold mEnd
            rw [if_neg (show ¬ (1 : Int32) = 0 by decide), y1]
            simp only [Option.bind_some]
            rw [y5.1]
            by_cases z : T (B.2.1 + 1) = -21
            · rw [if_pos (m8.mpr z), if_pos z]; rfl
            · rw [if_neg (fun x => z (m8.mp x)), if_neg z]; rfl
          rw [en]
          by_cases z : T (B.2.1 + 1) = -21
          · rw [if_pos z] at hP
            rw [if_pos z, hP]
            refine ⟨X3, rfl, T3, y4, fun _ => ⟨wr_app ?_ ?_, ?_, ?_, ?_⟩⟩
            · intro k hk
              rw [y2 98 _ (by omega), F2 98 _ (by omega) (by omega) (by omega) (by omega)]
              exact kw k hk
            · intro k hk
              rw [y2 98 _ (by omega), Nat.zero_add]
              exact uw' k hk
            · rw [y2 89 45 (by omega)]; exact u45
            · rw [y2 99 _ (by omega), F2 99 _ (by omega) (by omega) (by omega) (by omega)]; exact k99
            · rw [y2 99 _ (by omega)]; exact u99
          · rw [if_neg z] at hP
            rw [if_neg z]
            exact fail X3 _ hP T3 y4
        · rw [if_neg ok2] at ug
          rw [ug, stop0]
          refine fail X2 _ ?_ T2 u38
          rw [hP]
          by_cases w1 : B.1 = true
          · rw [if_pos w1, if_neg (fun w2 => ok2 (v2.mpr ⟨w1, w2⟩))]
          · rw [if_neg w1]
      · rw [if_neg (by decide)] at u1
        rw [if_neg u1] at hP
        rw [ug, stop0]
        exact fail X2 _ hP T2 u38
    · rw [if_neg ok] at gg
      rw [gg, m_stop (by omega) (.inr rfl), stop0]
      refine fail X1 _ ?_ T1 k38
      rw [hP]
      by_cases p1 : A.1 = true
      · rw [if_pos p1, if_neg (fun p2 => ok (s2.mpr ⟨p1, p2⟩))]
      · rw [if_neg p1]
  · rw [if_pos rfl] at q1
    rw [if_neg q1] at hP
    rw [gg, m_stop (by omega) (.inr rfl), stop0]
    exact fail X1 _ hP T1 k38
