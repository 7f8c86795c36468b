/-! ===== the pure layer: the model's reading of one expression ===== -/
theorem mtk_iff (s : Int32) : (mtok s = 59 ↔ s = -20) ∧ (mtok s = 41 ↔ s = -19) ∧ (mtok s = 1 ↔ 0 ≤ s.toInt) ∧ (mtok s = 2 ↔ -6 ≤ s.toInt ∧ s.toInt < 0) ∧ (mtok s = 6 ↔ s = -8) ∧ (mtok s = 45 ↔ s = -14) ∧ (mtok s = 40 ↔ s = -18) ∧ (mtok s = 0 ↔ s = -21) ∧ (mtok s = 3 ↔ s = -16 ∨ s = -17) := by
  by_cases y8 : s = -8
  · subst y8; decide
  by_cases y9 : s = -9
  · subst y9; decide
  by_cases y10 : s = -10
  · subst y10; decide
  by_cases y11 : s = -11
  · subst y11; decide
  by_cases y12 : s = -12
  · subst y12; decide
  by_cases y13 : s = -13
  · subst y13; decide
  by_cases y14 : s = -14
  · subst y14; decide
  by_cases y15 : s = -15
  · subst y15; decide
  by_cases y16 : s = -16
  · subst y16; decide
  by_cases y17 : s = -17
  · subst y17; decide
  by_cases y18 : s = -18
  · subst y18; decide
  by_cases y19 : s = -19
  · subst y19; decide
  by_cases y20 : s = -20
  · subst y20; decide
  by_cases y21 : s = -21
  · subst y21; decide
  by_cases h0 : 0 ≤ s.toInt
  · have e : mtok s = 1 := by unfold mtok; rw [if_pos h0]
    rw [e]
    exact ⟨⟨fun z => absurd z (by decide), fun z => absurd z y20⟩, ⟨fun z => absurd z (by decide), fun z => absurd z y19⟩, ⟨fun _ => h0, fun _ => rfl⟩, ⟨fun z => absurd z (by decide), fun z => absurd z (by omega)⟩, ⟨fun z => absurd z (by decide), fun z => absurd z y8⟩, ⟨fun z => absurd z (by decide), fun z => absurd z y14⟩, ⟨fun z => absurd z (by decide), fun z => absurd z y18⟩, ⟨fun z => absurd z (by decide), fun z => absurd z y21⟩, ⟨fun z => absurd z (by decide), fun z => by rcases z with z | z; exact absurd z y16; exact absurd z y17⟩⟩
  by_cases h6 : -6 ≤ s.toInt
  · have e : mtok s = 2 := by unfold mtok; rw [if_neg h0, if_neg y16, if_neg y17, if_pos h6]
    rw [e]
    exact ⟨⟨fun z => absurd z (by decide), fun z => absurd z y20⟩, ⟨fun z => absurd z (by decide), fun z => absurd z y19⟩, ⟨fun z => absurd z (by decide), fun z => absurd z h0⟩, ⟨fun _ => ⟨h6, by omega⟩, fun _ => rfl⟩, ⟨fun z => absurd z (by decide), fun z => absurd z y8⟩, ⟨fun z => absurd z (by decide), fun z => absurd z y14⟩, ⟨fun z => absurd z (by decide), fun z => absurd z y18⟩, ⟨fun z => absurd z (by decide), fun z => absurd z y21⟩, ⟨fun z => absurd z (by decide), fun z => by rcases z with z | z; exact absurd z y16; exact absurd z y17⟩⟩
  · have e : mtok s = -1 := by unfold mtok; rw [if_neg h0, if_neg y16, if_neg y17, if_neg h6, if_neg y9, if_neg y10, if_neg y8, if_neg y18, if_neg y19, if_neg y15, if_neg y13, if_neg y14, if_neg y20, if_neg y11, if_neg y12, if_neg y21]
    rw [e]
    exact ⟨⟨fun z => absurd z (by decide), fun z => absurd z y20⟩, ⟨fun z => absurd z (by decide), fun z => absurd z y19⟩, ⟨fun z => absurd z (by decide), fun z => absurd z h0⟩, ⟨fun z => absurd z (by decide), fun z => absurd z.1 h6⟩, ⟨fun z => absurd z (by decide), fun z => absurd z y8⟩, ⟨fun z => absurd z (by decide), fun z => absurd z y14⟩, ⟨fun z => absurd z (by decide), fun z => absurd z y18⟩, ⟨fun z => absurd z (by decide), fun z => absurd z y21⟩, ⟨fun z => absurd z (by decide), fun z => by rcases z with z | z; exact absurd z y16; exact absurd z y17⟩⟩
theorem m_sign {N : Nat} {ρ : Rh} {I : Nat → Nat → Int32} {J : Nat → Nat → Int64} {s : Int32} (h : I 89 39 = mtok s) : f_X12_signOf N ρ I J = some (if tgN s = 9 then -1 else mcd s) := by
  unfold f_X12_signOf
  rw [h]
  by_cases y8 : s = -8
  · subst y8; rfl
  by_cases y9 : s = -9
  · subst y9; rfl
  by_cases y10 : s = -10
  · subst y10; rfl
  by_cases y11 : s = -11
  · subst y11; rfl
  by_cases y12 : s = -12
  · subst y12; rfl
  by_cases y13 : s = -13
  · subst y13; rfl
  by_cases y14 : s = -14
  · subst y14; rfl
  by_cases y15 : s = -15
  · subst y15; rfl
  by_cases y16 : s = -16
  · subst y16; rfl
  by_cases y17 : s = -17
  · subst y17; rfl
  by_cases y18 : s = -18
  · subst y18; rfl
  by_cases y19 : s = -19
  · subst y19; rfl
  by_cases y20 : s = -20
  · subst y20; rfl
  by_cases y21 : s = -21
  · subst y21; rfl
  have e9 : tgN s = 9 := by unfold tgN; rw [if_neg y15, if_neg y14, if_neg y13, if_neg y12, if_neg y11, if_neg y10, if_neg y9]
  rw [if_pos e9]
  by_cases h0 : 0 ≤ s.toInt
  · have e : mtok s = 1 := by unfold mtok; rw [if_pos h0]
    rw [e]; rfl
  by_cases h6 : -6 ≤ s.toInt
  · have e : mtok s = 2 := by unfold mtok; rw [if_neg h0, if_neg y16, if_neg y17, if_pos h6]
    rw [e]; rfl
  · have e : mtok s = -1 := by unfold mtok; rw [if_neg h0, if_neg y16, if_neg y17, if_neg h6, if_neg y9, if_neg y10, if_neg y8, if_neg y18, if_neg y19, if_neg y15, if_neg y13, if_neg y14, if_neg y20, if_neg y11, if_neg y12, if_neg y21]
    rw [e]; rfl
/-- the model stands before token i -/
def mPo (c : Nat → Nat) (sz i : Nat) (X : Nat → Nat → Int32) : Prop := X 89 14 = Int32.ofNat sz ∧ X 89 37 = Int32.ofNat (cu c sz i) ∧ tBy X ∧ tc X = c
theorem mPo_fr {c : Nat → Nat} {sz i : Nat} {X X' : Nat → Nat → Int32} (h : mPo c sz i X) {t n : Nat} (hF : mF 43 t n X X') : mPo c sz i X' := by
  obtain ⟨h1, h2, h3, h4⟩ := h
  refine ⟨(hF 89 14 (by omega) (by omega) (by omega)).trans h1, (hF 89 37 (by omega) (by omega) (by omega)).trans h2, fun k hk => ?_, ?_⟩
  · rw [hF 36 k (by omega) (by omega) (by omega), hF 97 k (by omega) (by omega) (by omega)]; exact h3 k hk
  · rw [← h4]; funext k; unfold tc; rw [hF 97 k (by omega) (by omega) (by omega)]
theorem mU_nx {X X' : Nat → Nat → Int32} {t o n : Nat} {H : List Int32} (hF : ∀ b j, ¬ (b = 89 ∧ (j = 37 ∨ j = 38 ∨ j = 39 ∨ j = 40)) → X' b j = X b j) (h : mU X t H o n) : mU X' t H o n := by
  obtain ⟨h1, h2, h3, h4, h5, h6, h7⟩ := h
  exact ⟨(hF 89 17 (by omega)).trans h1, (hF 89 43 (by omega)).trans h2, (hF 89 44 (by omega)).trans h3, (hF 89 45 (by omega)).trans h4, stk_fr (fun j _ => hF 111 j (by omega)) h5, h6, h7⟩
theorem m_nx {N : Nat} (hN : 200 ≤ N) {ρ : Rh} {J : Nat → Nat → Int64} {c : Nat → Nat} {sz i : Nat} {X : Nat → Nat → Int32} (hw : vWords J) (hsz : sz ≤ 160) (h : mPo c sz i X) : ∃ X', f_X12_next N ρ X J = some X' ∧ (∀ b j, ¬ (b = 89 ∧ (j = 37 ∨ j = 38 ∨ j = 39 ∨ j = 40)) → X' b j = X b j) ∧ mPo c sz (i + 1) X' ∧ X' 89 38 = Int32.ofNat (lb c sz (cu c sz i)) ∧ mTk X' (tT c sz i) := by
  obtain ⟨h1, h2, h3, h4⟩ := h
  obtain ⟨X', g1, g2, g3, g4, g5⟩ := m_next hN (ρ := ρ) (J := J) hw h3 hsz (cu_le (c := c) (sz := sz) i) h1 h2
  rw [h4] at g3 g4 g5
  refine ⟨X', g1, g2, ⟨(g2 89 14 (by omega)).trans h1, g4, fun k hk => ?_, ?_⟩, g3, g5⟩
  · rw [g2 36 k (by omega), g2 97 k (by omega)]; exact h3 k hk
  · rw [← h4]; funext k; unfold tc; rw [g2 97 k (by omega)]
/-- what the reading of an expression leaves -/
def mZ (c : Nat → Nat) (sz t n : Nat) (X X' : Nat → Nat → Int32) (r : Bool × Nat × List Int32) : Prop := mF 37 t n X X' ∧ wr t n X' r.2.2 ∧ X' 89 45 = Int32.ofNat (n + r.2.2.length) ∧ X' 89 38 = Int32.ofNat (lb c sz (cu c sz r.2.1)) ∧ mPo c sz (r.2.1 + 1) X' ∧ n + r.2.2.length ≤ r.2.1
theorem mZ.app {c : Nat → Nat} {sz t n : Nat} {X X1 X' : Nat → Nat → Int32} {cs : List Int32} {r : Bool × Nat × List Int32} (hF : mF 37 t n X X1) (hw : wr t n X1 cs) (h : mZ c sz t (n + cs.length) X1 X' r) : mZ c sz t n X X' (app cs r) := by
  obtain ⟨h1, h2, h3, h4, h5, h6⟩ := h
  refine ⟨mF_tr hF h1 (by omega), wr_app (wr_fr hw h1 (by omega)) h2, ?_, h4, h5, ?_⟩
  · show X' 89 45 = Int32.ofNat (n + (cs ++ r.2.2).length)
    rw [List.length_append, ← Nat.add_assoc]
    exact h3
  · show n + (cs ++ r.2.2).length ≤ r.2.1
    rw [List.length_append, ← Nat.add_assoc]
    exact h6
theorem mZ.one {c : Nat → Nat} {sz t n i o : Nat} {X X' : Nat → Nat → Int32} {cs H : List Int32} {b : Bool} (hF : mF 37 t n X X') (hw : wr t n X' cs) (hU : mU X' t H o (n + cs.length)) (h38 : X' 89 38 = Int32.ofNat (lb c sz (cu c sz i))) (hR : mPo c sz (i + 1) X') (hb : n + cs.length ≤ i) : mZ c sz t n X X' (b, i, cs) := ⟨hF, hw, hU.2.2.2.1, h38, hR, hb⟩
def mdW (md : Nat) : Int32 := if md = 0 then 0 else 1
theorem uw_is {r : Nat} : ∀ (H : List Int32) (o : Nat), lo r (uw r H o).1
  | [], o => trivial
  | h :: H, o => by
    by_cases q : rkc h < r
    · have e : uw r (h :: H) o = (h :: H, o, []) := uw_lo (show lo r (h :: H) from q) o
      rw [e]
      exact q
    · have e : uw r (h :: H) o = ((uw r H (o - opw h)).1, (uw r H (o - opw h)).2.1, h :: (uw r H (o - opw h)).2.2) := by
        show (if rkc h < r then _ else ((uw r H (o - opw h)).1, (uw r H (o - opw h)).2.1, h :: (uw r H (o - opw h)).2.2)) = _
        rw [if_neg q]
      rw [e]
      exact uw_is H _
theorem m_read {N : Nat} (hN : 1000 ≤ N) {ρ : Rh} {J : Nat → Nat → Int64} (hw : vWords J) {c : Nat → Nat} {sz t : Nat} (hsz : sz ≤ 160) (ht : t < 6) (hT : ∀ i, 160 ≤ i → tT c sz i = -21) : ∀ (d i o n md fuel : Nat) (H : List Int32) (X : Nat → Nat → Int32) (m : Int32), i + d = 200 → i ≤ 160 → d < fuel → md ≤ 2 → (md = 1 → m = 0) → (md = 2 → m = 1) → H.length + n ≤ i → mPo c sz i X → mU X t H o n → ∃ X', f_X12_eRead_14 N J ρ fuel X (mdW md) m = some (X', if (mrd (tT c sz) d i H o md).1 = true then 1 else 0) ∧ mZ c sz t n X X' (mrd (tT c sz) d i H o md)
  | 0, i, o, n, md, fuel, H, X, m, z1, z2, _, _, _, _, _, _, _ => absurd z1 (by omega)
  | d + 1, i, o, n, 0, fuel + 1, H, X, m, z1, z2, z3, z4, z5, z6, z7, hR, hU => by
    obtain ⟨X1, g1, g2, g3, g4, g5⟩ := m_nx (N := N) (by omega) (ρ := ρ) hw hsz hR
    have hU1 := mU_nx g2 hU
    have F1 : mF 37 t n X X1 := fun b j y1 y2 y3 => g2 b j (by omega)
    obtain ⟨s, hs⟩ : ∃ s, s = tT c sz i := ⟨_, rfl⟩
    rw [← hs] at g5
    obtain ⟨m1, m2, m3, m4, m5, m6, m7, m8, m9⟩ := mtk_iff s
    have hno : ¬ s = -21 → i + 1 ≤ 160 := fun y => by
      apply Decidable.byContradiction
      intro w
      exact y (hs.trans (hT i (by omega)))
    have e1 : mrd (tT c sz) (d + 1) i H o 0 = (if s = -20 then (if (uw 1 H o).1 = [] then (true, i, (uw 1 H o).2.2) else (false, i, (uw 1 H o).2.2))
        else if s = -19 then (if (uw 1 H o).1 = [] then (false, i, (uw 1 H o).2.2) else app ((uw 1 H o).2.2 ++ (uw 7 ((uw 1 H o).1.tail) ((uw 1 H o).2.1 - 1)).2.2) (mrd (tT c sz) d (i + 1) (uw 7 ((uw 1 H o).1.tail) ((uw 1 H o).2.1 - 1)).1 (uw 7 ((uw 1 H o).1.tail) ((uw 1 H o).2.1 - 1)).2.1 0))
        else if tgN s = 9 then (false, i, [])
        else if rkc s = 4 ∧ hdr (uw (sr s) H o).1 = 4 then (false, i, (uw (sr s) H o).2.2)
        else app (uw (sr s) H o).2.2 (mrd (tT c sz) d (i + 1) (s :: (uw (sr s) H o).1) (uw (sr s) H o).2.1 (if rkc s ≤ 2 then 2 else 1))) := by
      rw [hs]; rfl
    rw [e1]
    rw [f_X12_eRead_14.eq_2, g1]
    simp only [Option.bind_some]
    rw [if_pos (show mdW 0 = 0 from rfl), g5.1]
    by_cases c20 : s = -20
    · rw [if_pos c20, if_pos (m1.mpr c20)]
      obtain ⟨X2, a1, a2, a3⟩ := m_unwinds (N := N) (ρ := ρ) (J := J) (r := 1) (by omega) (by omega) ht (by omega) hU1
      rw [show (1 : Int32) = Int32.ofNat 1 from rfl, a1]
      simp only [Option.bind_some]
      have F2 : mF 37 t n X X2 := mF_tr F1 (mF_le a2.2.1 (by omega)) (Nat.le_refl _)
      have q38 : X2 89 38 = Int32.ofNat (lb c sz (cu c sz i)) := (a2.2.1 89 38 (by omega) (by omega) (by omega)).trans g4
      by_cases q : (uw 1 H o).1 = []
      · rw [if_pos q, if_pos (by rw [a2.1.2.1, q]; rfl)]
        exact ⟨X2, rfl, .one F2 a2.2.2 a2.1 q38 (mPo_fr g3 a2.2.1) (by omega)⟩
      · rw [if_neg q, if_neg (fun y => q (List.eq_nil_of_length_eq_zero (by
          rw [a2.1.2.1] at y
          have := congrArg Int32.toInt y
          rw [p_nI (by omega)] at this
          have e : (0 : Int32).toInt = 0 := rfl
          omega)))]
        exact ⟨X2, rfl, .one F2 a2.2.2 a2.1 q38 (mPo_fr g3 a2.2.1) (by omega)⟩
    rw [if_neg c20, if_neg (fun y => c20 (m1.mp y))]
    by_cases c19 : s = -19
    · rw [if_pos c19, if_pos (m2.mpr c19)]
      have hi := hno (by rw [c19]; decide)
      obtain ⟨X2, a1, a2, a3⟩ := m_unwinds (N := N) (ρ := ρ) (J := J) (r := 1) (by omega) (by omega) ht (by omega) hU1
      rw [show f_X12_unwinds N ρ X1 J 1 = some X2 from a1]
      simp only [Option.bind_some]
      obtain ⟨H1, hH1⟩ : ∃ H1, H1 = (uw 1 H o).1 := ⟨_, rfl⟩
      obtain ⟨o1, ho1⟩ : ∃ o1, o1 = (uw 1 H o).2.1 := ⟨_, rfl⟩
      obtain ⟨cs, hcs⟩ : ∃ cs, cs = (uw 1 H o).2.2 := ⟨_, rfl⟩
      rw [← hH1, ← ho1, ← hcs] at a2
      rw [← hH1, ← hcs] at a3
      rw [← hH1, ← ho1, ← hcs]
      have F2 : mF 37 t n X X2 := mF_tr F1 (mF_le a2.2.1 (by omega)) (Nat.le_refl _)
      have q38 : X2 89 38 = Int32.ofNat (lb c sz (cu c sz i)) := (a2.2.1 89 38 (by omega) (by omega) (by omega)).trans g4
      cases hH : H1 with
      | nil =>
        rw [hH] at a2 a3
        rw [if_pos rfl, if_pos (by rw [a2.1.2.1]; rfl)]
        exact ⟨X2, rfl, .one F2 a2.2.2 a2.1 q38 (mPo_fr g3 a2.2.1) (by omega)⟩
      | cons a B =>
        have hlen : B.length + 1 + cs.length = H.length := by rw [hH] at a3; exact a3
        have hlo : lo 1 (a :: B) := by rw [← hH, hH1]; exact uw_is H o
        rw [hH] at a2
        obtain ⟨u1, u2', u3, u4, ⟨u5, u5b, u5c⟩, u6, u7⟩ := id a2.1
        have ha : a = -18 := by
          have : rkc a < 1 := hlo
          rcases u5 with y | y | y | y | y | y | y | y | y | y
          · exact y
          all_goals (rw [y] at this; exact absurd this (by decide))
        have hca : cmw a = 1 := by rw [ha]; rfl
        have u6' : cmw a + cm B ≤ o1 := u6
        have l43 : X2 89 43 = Int32.ofNat (B.length + 1) := u2'
        have e43 : X2 89 43 - 1 = Int32.ofNat B.length := by rw [l43, p_pred (by omega) (by omega)]; rfl
        have e44 : X2 89 44 - 1 = Int32.ofNat (o1 - 1) := by rw [u3, p_pred (by omega) (by omega)]
        rw [if_neg (List.cons_ne_nil _ _), if_neg (by
          rw [l43]
          intro y
          have := congrArg Int32.toInt y
          rw [p_nI (by omega)] at this
          have e : (0 : Int32).toInt = 0 := rfl
          omega), e43, e44]
        have hU2 : mU (u2 (u2 X2 89 43 (Int32.ofNat B.length)) 89 44 (Int32.ofNat (o1 - 1))) t B (o1 - 1) (n + cs.length) := ⟨(u2_fr (by omega)).trans ((u2_fr (by omega)).trans u1), (u2_fr (by omega)).trans u2_at, u2_at, (u2_fr (by omega)).trans ((u2_fr (by omega)).trans u4), stk_fr (fun j hj => (u2_fr (by omega)).trans (u2_fr (by omega))) u5c, by omega, by omega⟩
        obtain ⟨X3, b1, b2, b3⟩ := m_unwinds (N := N) (ρ := ρ) (J := J) (r := 7) (by omega) (by omega) ht (by omega) hU2
        rw [show f_X12_unwinds N ρ (u2 (u2 X2 89 43 (Int32.ofNat B.length)) 89 44 (Int32.ofNat (o1 - 1))) J 7 = some X3 from b1]
        simp only [Option.bind_some]
        have b4 : mQ t (n + cs.length) X2 X3 (uw 7 B (o1 - 1)).2.2 (uw 7 B (o1 - 1)).1 (uw 7 B (o1 - 1)).2.1 := ⟨b2.1, fun b j y1 y2 y3 => (b2.2.1 b j y1 y2 y3).trans ((u2_fr (by omega)).trans (u2_fr (by omega))), b2.2.2⟩
        have b5 := a2.tr b4
        have F3 : mF 37 t n X X3 := mF_tr F1 (mF_le b5.2.1 (by omega)) (Nat.le_refl _)
        show ∃ X', f_X12_eRead_14 N J ρ fuel X3 (mdW 0) m = some (X', if (mrd (tT c sz) d (i + 1) (uw 7 B (o1 - 1)).1 (uw 7 B (o1 - 1)).2.1 0).1 = true then 1 else 0) ∧ mZ c sz t n X X' (app (cs ++ (uw 7 B (o1 - 1)).2.2) (mrd (tT c sz) d (i + 1) (uw 7 B (o1 - 1)).1 (uw 7 B (o1 - 1)).2.1 0))
        obtain ⟨X', k1, k2⟩ := m_read hN (ρ := ρ) hw hsz ht hT d (i + 1) (uw 7 B (o1 - 1)).2.1 (n + (cs ++ (uw 7 B (o1 - 1)).2.2).length) 0 fuel (uw 7 B (o1 - 1)).1 X3 m (by omega) hi (by omega) (by omega) (by omega) (by omega) (by rw [List.length_append]; omega) (mPo_fr g3 b5.2.1) b5.1
        exact ⟨X', k1, .app F3 b5.2.2 k2⟩
    rw [if_neg c19, if_neg (fun y => c19 (m2.mp y)), m_sign g5.1]
    simp only [Option.bind_some]
    by_cases c9 : tgN s = 9
    · simp only [if_pos c9]
      exact ⟨X1, rfl, .one (H := H) (o := o) F1 (fun k hk => absurd hk (Nat.not_lt_zero k)) hU1 g4 g3 (by show n + 0 ≤ i; omega)⟩
    · have hi := hno (by have := ((tgN_rk s).2.2 c9).2.2; exact this)
      obtain ⟨v1, v2, v3, v4⟩ := tgN_hv c9
      simp only [if_neg c9]
      rw [if_neg v3]
      obtain ⟨w1, w2, w3⟩ := m_between (N := N) (ρ := ρ) (J := J) (by omega) ht (by omega) hU1 c9
      by_cases q : rkc s = 4 ∧ hdr (uw (sr s) H o).1 = 4
      · obtain ⟨X2, a1, a2⟩ := w1 q
        rw [a1, if_pos q]
        simp only [Option.bind_some]
        have F2 : mF 37 t n X X2 := mF_tr F1 (mF_le a2.2.1 (by omega)) (Nat.le_refl _)
        have q38 : X2 89 38 = Int32.ofNat (lb c sz (cu c sz i)) := (a2.2.1 89 38 (by omega) (by omega) (by omega)).trans g4
        exact ⟨X2, rfl, .one F2 a2.2.2 a2.1 q38 (mPo_fr g3 a2.2.1) (by omega)⟩
      · obtain ⟨X2, a1, a2⟩ := w2 q
        rw [a1, if_neg q]
        simp only [Option.bind_some]
        rw [if_neg (by decide)]
        have F2 : mF 37 t n X X2 := mF_tr F1 (mF_le a2.2.1 (by omega)) (Nat.le_refl _)
        have jm : (if 12 < mcd s then some (0 : Int32) else some 1) = some (if rkc s ≤ 2 then 1 else 0) := by
          by_cases y : rkc s ≤ 2
          · rw [if_neg (fun x => v4.mp x y), if_pos y]
          · rw [if_pos (v4.mpr y), if_neg y]
        rw [jm]
        simp only [Option.bind_some]
        have em : (1 : Int32) = mdW (if rkc s ≤ 2 then 2 else 1) := by split <;> rfl
        obtain ⟨X', k1, k2⟩ := m_read hN (ρ := ρ) hw hsz ht hT d (i + 1) (uw (sr s) H o).2.1 (n + (uw (sr s) H o).2.2.length) (if rkc s ≤ 2 then 2 else 1) fuel (s :: (uw (sr s) H o).1) X2 (if rkc s ≤ 2 then 1 else 0) (by omega) hi (by omega) (by split <;> omega) (fun y => by split at y; omega; rw [if_neg (by assumption)]) (fun y => by split at y; rw [if_pos (by assumption)]; omega) (by show (uw (sr s) H o).1.length + 1 + _ ≤ _; omega) (mPo_fr g3 a2.2.1) a2.1
        rw [← em] at k1
        exact ⟨X', k1, .app F2 a2.2.2 k2⟩
  | d + 1, i, o, n, md + 1, fuel + 1, H, X, m, z1, z2, z3, z4, z5, z6, z7, hR, hU => by
    obtain ⟨X1, g1, g2, g3, g4, g5⟩ := m_nx (N := N) (by omega) (ρ := ρ) hw hsz hR
    have hU1 := mU_nx g2 hU
    have F1 : mF 37 t n X X1 := fun b j y1 y2 y3 => g2 b j (by omega)
    obtain ⟨s, hs⟩ : ∃ s, s = tT c sz i := ⟨_, rfl⟩
    rw [← hs] at g5
    obtain ⟨m1, m2, m3, m4, m5, m6, m7, m8, m9⟩ := mtk_iff s
    have hno : ¬ s = -21 → i + 1 ≤ 160 := fun y => by
      apply Decidable.byContradiction
      intro w
      exact y (hs.trans (hT i (by omega)))
    have e1 : mrd (tT c sz) (d + 1) i H o (md + 1) = (if -6 ≤ s.toInt then app (s :: (uw 7 H o).2.2) (mrd (tT c sz) d (i + 1) (uw 7 H o).1 (uw 7 H o).2.1 0)
        else if s = -14 then (if o = 5 then (false, i, []) else mrd (tT c sz) d (i + 1) (-7 :: H) (o + 1) 1)
        else if s = -18 then (if o = 5 then (false, i, []) else mrd (tT c sz) d (i + 1) (-18 :: H) (o + 1) 2)
        else if s = -8 then (if md = 0 then (false, i, []) else if o = 5 then (false, i, []) else mrd (tT c sz) d (i + 1) (-8 :: H) (o + 1) (md + 1))
        else (false, i, [])) := by
      rw [hs]; rfl
    rw [e1]
    rw [f_X12_eRead_14.eq_2, g1]
    simp only [Option.bind_some]
    have hF : mZ c sz t n X X1 (false, i, []) := .one (H := H) (o := o) F1 (fun k hk => absurd hk (Nat.not_lt_zero k)) hU1 g4 g3 (by show n + 0 ≤ i; omega)
    rw [if_neg (show ¬ mdW (md + 1) = 0 by unfold mdW; rw [if_neg (by omega)]; decide), g5.1]
    by_cases c6 : -6 ≤ s.toInt
    · rw [if_pos c6]
      have hi := hno (by intro y; rw [y] at c6; exact absurd c6 (by decide))
      obtain ⟨X2, a1, a2⟩ := m_puts (N := N) (ρ := ρ) (J := J) ht (by omega) hU1 s
      obtain ⟨X3, b1, b2, b3⟩ := m_unwinds (N := N) (ρ := ρ) (J := J) (r := 7) (by omega) (by omega) ht (by show H.length + (n + 1) < 200; omega) a2.1
      have b5 := a2.tr b2
      have F3 : mF 37 t n X X3 := mF_tr F1 (mF_le b5.2.1 (by omega)) (Nat.le_refl _)
      obtain ⟨X', k1, k2⟩ := m_read hN (ρ := ρ) hw hsz ht hT d (i + 1) (uw 7 H o).2.1 (n + (s :: (uw 7 H o).2.2).length) 0 fuel (uw 7 H o).1 X3 m (by omega) hi (by omega) (by omega) (by omega) (by omega) (by show _ + (n + ((uw 7 H o).2.2.length + 1)) ≤ _; omega) (mPo_fr g3 b5.2.1) b5.1
      refine ⟨X', ?_, .app F3 b5.2.2 k2⟩
      have tail : (Option.bind (f_X12_puts N ρ X1 J (mcd s)) fun v12 => (Option.bind (f_X12_unwinds N ρ v12 J (7)) fun v13 => f_X12_eRead_14 N J ρ fuel v13 (0) m)) = some (X', if (mrd (tT c sz) d (i + 1) (uw 7 H o).1 (uw 7 H o).2.1 0).1 = true then 1 else 0) := by
        rw [a1]
        simp only [Option.bind_some]
        rw [show f_X12_unwinds N ρ X2 J 7 = some X3 from b1]
        simp only [Option.bind_some]
        exact k1
      by_cases h0 : 0 ≤ s.toInt
      · have ev : X1 89 40 = s := by rw [g5.2 (.inl h0)]; unfold mval; rw [if_pos h0]
        have ec : mcd s = 100000 + s := by unfold mcd; rw [if_pos h0]
        rw [if_pos (m3.mpr h0), if_pos (m3.mpr h0)]
        simp only [Option.bind_some]
        rw [ev, ← ec]
        exact tail
      · have ev : X1 89 40 = mcd s := by
          rw [g5.2 (.inr (.inr (.inr ⟨c6, by omega⟩)))]
          have : s.toInt = -1 ∨ s.toInt = -2 ∨ s.toInt = -3 ∨ s.toInt = -4 ∨ s.toInt = -5 ∨ s.toInt = -6 := by omega
          rcases this with y | y | y | y | y | y
          · have x : s = -1 := p_eq y
            rw [x]; rfl
          · have x : s = -2 := p_eq y
            rw [x]; rfl
          · have x : s = -3 := p_eq y
            rw [x]; rfl
          · have x : s = -4 := p_eq y
            rw [x]; rfl
          · have x : s = -5 := p_eq y
            rw [x]; rfl
          · have x : s = -6 := p_eq y
            rw [x]; rfl
        rw [if_neg (fun y => h0 (m3.mp y)), if_pos (m4.mpr ⟨c6, by omega⟩), if_neg (fun y => h0 (m3.mp y))]
        simp only [Option.bind_some]
        rw [ev]
        exact tail
    rw [if_neg c6, if_neg (fun y => c6 (by have := m3.mp y; omega)), if_neg (fun y => c6 (m4.mp y).1)]
    by_cases c14 : s = -14
    · subst c14
      have hi := hno (by decide)
      rw [if_pos rfl, if_neg (show ¬ mtok (-14) = 6 by decide), if_pos (show mtok (-14) = 45 by decide)]
      obtain ⟨w1, w2⟩ := m_opens (N := N) (ρ := ρ) (J := J) (by omega) hU1 (s := -7) (by unfold hv; decide) (by decide)
      by_cases q : o = 5
      · rw [if_pos q, show f_X12_opensOne N ρ X1 J 19 = some (X1, 0) from w1 q]
        exact ⟨X1, rfl, hF⟩
      · obtain ⟨X2, a1, a2⟩ := w2 q
        rw [if_neg q, show f_X12_opensOne N ρ X1 J 19 = some (X2, 1) from a1]
        simp only [Option.bind_some]
        rw [if_neg (by decide)]
        have F2 : mF 37 t n X X2 := mF_tr F1 (mF_le a2.2.1 (by omega)) (Nat.le_refl _)
        obtain ⟨X', k1, k2⟩ := m_read hN (ρ := ρ) hw hsz ht hT d (i + 1) (o + 1) n 1 fuel (-7 :: H) X2 0 (by omega) hi (by omega) (by omega) (fun _ => rfl) (by omega) (by show H.length + 1 + n ≤ _; omega) (mPo_fr g3 a2.2.1) a2.1
        refine ⟨X', ?_, ?_⟩
        · have em : mdW (md + 1) = mdW 1 := by unfold mdW; rw [if_neg (by omega), if_neg (by omega)]
          rw [em]; exact k1
        · exact mZ.app (cs := []) F2 (fun k hk => absurd hk (Nat.not_lt_zero k)) k2
    rw [if_neg c14]
    by_cases c18 : s = -18
    · subst c18
      have hi := hno (by decide)
      rw [if_pos rfl, if_neg (show ¬ mtok (-18) = 6 by decide), if_neg (show ¬ mtok (-18) = 45 by decide), if_pos (show mtok (-18) = 40 by decide)]
      obtain ⟨w1, w2⟩ := m_opens (N := N) (ρ := ρ) (J := J) (by omega) hU1 (s := -18) (by unfold hv; decide) (by decide)
      by_cases q : o = 5
      · rw [if_pos q, show f_X12_opensOne N ρ X1 J 0 = some (X1, 0) from w1 q]
        exact ⟨X1, rfl, hF⟩
      · obtain ⟨X2, a1, a2⟩ := w2 q
        rw [if_neg q, show f_X12_opensOne N ρ X1 J 0 = some (X2, 1) from a1]
        simp only [Option.bind_some]
        rw [if_neg (by decide)]
        have F2 : mF 37 t n X X2 := mF_tr F1 (mF_le a2.2.1 (by omega)) (Nat.le_refl _)
        obtain ⟨X', k1, k2⟩ := m_read hN (ρ := ρ) hw hsz ht hT d (i + 1) (o + 1) n 2 fuel (-18 :: H) X2 1 (by omega) hi (by omega) (by omega) (by omega) (fun _ => rfl) (by show H.length + 1 + n ≤ _; omega) (mPo_fr g3 a2.2.1) a2.1
        refine ⟨X', ?_, ?_⟩
        · have em : mdW (md + 1) = mdW 2 := by unfold mdW; rw [if_neg (by omega), if_neg (by omega)]
          rw [em]; exact k1
        · exact mZ.app (cs := []) F2 (fun k hk => absurd hk (Nat.not_lt_zero k)) k2
    rw [if_neg c18]
    by_cases c8 : s = -8
    · subst c8
      have hi := hno (by decide)
      rw [if_pos rfl, if_pos (show mtok (-8) = 6 by decide)]
      obtain ⟨w1, w2⟩ := m_opens (N := N) (ρ := ρ) (J := J) (by omega) hU1 (s := -8) (by unfold hv; decide) (by decide)
      by_cases qm : md = 0
      · rw [if_pos qm, if_pos (z5 (by omega)), if_neg (show ¬ mtok (-8) = 45 by decide), if_neg (show ¬ mtok (-8) = 40 by decide)]
        exact ⟨X1, rfl, hF⟩
      · have hm1 : m = 1 := z6 (by omega)
        rw [if_neg qm, if_neg (by rw [hm1]; decide)]
        by_cases q : o = 5
        · rw [if_pos q, show f_X12_opensOne N ρ X1 J 13 = some (X1, 0) from w1 q]
          exact ⟨X1, rfl, hF⟩
        · obtain ⟨X2, a1, a2⟩ := w2 q
          rw [if_neg q, show f_X12_opensOne N ρ X1 J 13 = some (X2, 1) from a1]
          simp only [Option.bind_some]
          rw [if_neg (by decide)]
          have F2 : mF 37 t n X X2 := mF_tr F1 (mF_le a2.2.1 (by omega)) (Nat.le_refl _)
          obtain ⟨X', k1, k2⟩ := m_read hN (ρ := ρ) hw hsz ht hT d (i + 1) (o + 1) n (md + 1) fuel (-8 :: H) X2 m (by omega) hi (by omega) (by omega) (by omega) (fun _ => hm1) (by show H.length + 1 + n ≤ _; omega) (mPo_fr g3 a2.2.1) a2.1
          refine ⟨X', k1, ?_⟩
          exact mZ.app (cs := []) F2 (fun k hk => absurd hk (Nat.not_lt_zero k)) k2
    · rw [if_neg c8, if_neg (fun y => c8 (m5.mp y)), if_neg (fun y => c14 (m6.mp y)), if_neg (fun y => c18 (m7.mp y))]
      exact ⟨X1, rfl, hF⟩
  termination_by d => d
