/-! ===== the pure layer: calls that sail: told, ends, judge ===== -/
theorem op_told {ρ : Rh} {I : Nat → Nat → Int32} {J : Nat → Nat → Int64} (N : Nat) (h : Inv ρ I J) (hN : 200 ≤ N) (r d m w : Int32) : ∃ I1 J1 ρ1 v I2, f_X11_told N ρ I J r d m w = some (I1, J1, ρ1, v) ∧ f_X12_told N ρ1 I1 J1 r d m w = some (I2, v) ∧ Inv ρ1 I2 J1 := by
  have t1 := h.2.2.1.1
  have t5 := h.2.2.1.2.2.2.2.1
  have m1 := h.2.1.1
  have m2 := h.2.1.2.1
  have r2 := h.2.2.2.2.2.2.1.2.1
  unfold bw at t5 m2 r2
  have td := p_tnc (I 89 3) (by omega)
  have tm := p_tnc (I 89 0) m2.1
  have ir := m_isRule N ρ I J r (by omega)
  have im := m_isMan N ρ I J m (by omega)
  by_cases hr : 0 ≤ r.toInt ∧ r.toInt < (I 89 9).toInt
  · obtain ⟨a, g1, hR⟩ := ruleAt_rx N h hr.1 hr.2
    by_cases hd : 0 ≤ d.toInt ∧ d.toInt ≤ (I 89 3).toInt
    · have cd : ∀ T : Option ((Nat → Nat → Int32) × (Nat → Nat → Int64) × Rh × Int32), (if d < 0 then some (I, J, ρ, (-5 : Int32)) else (if I 45 0 < d then some (I, J, ρ, -5) else T)) = T := by
        intro T
        rw [if_neg (by rw [fa_lt]; show ¬ _ < (0 : Int); omega), if_neg (by rw [fa_lt, t1]; omega)]
      by_cases hm : 0 ≤ m.toInt ∧ m.toInt < (I 89 0).toInt
      · by_cases hw : 0 ≤ w.toInt ∧ w.toInt ≤ 3
        · by_cases hx : w.toInt = 1 ∧ d.toInt = (I 89 3).toInt
          · have w1 : w = 1 := p_eq hx.1
            have de : d = I 89 3 := p_eq hx.2
            refine ⟨I, J, ρ, -7, I, ?_, ?_, h⟩
            · unfold f_X11_told
              rw [g1]
              simp only [Option.bind_some, ocase_so, c_isMan, m1, p_b01]
              rw [cd, if_neg (by omega), if_neg (by rw [fa_lt]; show ¬ _ < (0 : Int); omega), if_neg (by rw [fa_lt]; show ¬ (3 : Int) < _; omega), if_pos w1, if_pos (de.trans t1.symm)]
              rfl
            · unfold f_X12_told
              rw [ir]
              simp only [Option.bind_some, p_b01, m_in]
              rw [if_neg (by omega), if_neg (by show ¬ ¬ ((0 : Int) ≤ _ ∧ _ ≤ _); omega), im]
              simp only [Option.bind_some, p_b01]
              rw [if_neg (by omega), if_neg (by show ¬ ¬ ((0 : Int) ≤ _ ∧ _ ≤ (3 : Int)); omega), if_pos w1, if_pos de]
              rfl
          · have tdd := p_tnc d hd.1
            have tmm := p_tnc m hm.1
            obtain ⟨t, l, b, hh, L, hL⟩ := lx_of h
            obtain ⟨I1, J1, ρ1, c1, c2, c3, c4, c5, c6⟩ := c_sailP hN h (SX.refl ρ I J) hR hL
            obtain ⟨X1, d1, d2, d3, d4⟩ := m_goesP hN h c2 hR hL
            obtain ⟨P, hP⟩ : ∃ P, P = PV I (tn r) b hh L (I 89 5) (fun _ => true) (-1) := ⟨_, rfl⟩
            rw [← hP] at c5 d4
            have hmnP : vmn P = tn (I 89 0) := by rw [hP]; rfl
            rw [p_tnb hr.1] at d1
            have n9 : I1 89 9 = I 89 9 := c2.1 89 9 (by unfold SC; omega)
            have n0 : I1 89 0 = I 89 0 := c2.1 89 0 (by unfold SC; omega)
            have n3 : I1 89 3 = I 89 3 := c2.1 89 3 (by unfold SC; omega)
            have ir1 := m_isRule N ρ1 I1 J1 r (by rw [n9]; omega)
            rw [n9] at ir1
            have im1 := m_isMan N ρ1 I1 J1 m (by rw [n0]; omega)
            rw [n0] at im1
            have hmn : tn m < vmn P := by rw [hmnP]; omega
            have J4c : (if w = 1 then (if d = I 45 0 then some (Sum.inl (I, J, ρ, (-7 : Int32))) else some (Sum.inr ())) else some (Sum.inr ())) = (some (Sum.inr ()) : Option (((Nat → Nat → Int32) × (Nat → Nat → Int64) × Rh × Int32) ⊕ Unit)) := by
              by_cases q : w = 1
              · rw [if_pos q, if_neg (fun z => hx ⟨by rw [q]; rfl, by rw [z, t1]⟩)]
              · rw [if_neg q]
            have J4m : (if w = 1 then (if d = I1 89 3 then some (Sum.inl (I1, (-7 : Int32))) else some (Sum.inr ())) else some (Sum.inr ())) = (some (Sum.inr ()) : Option (((Nat → Nat → Int32) × Int32) ⊕ Unit)) := by
              by_cases q : w = 1
              · rw [if_pos q, if_neg (fun z => hx ⟨by rw [q]; rfl, by rw [z, n3]⟩)]
              · rw [if_neg q]
            obtain ⟨x0, x1, x2⟩ := c5.1 (tn d) (by omega)
            obtain ⟨y0, y1, y2⟩ := d4.1 (tn d) (by omega)
            rw [Nat.zero_add] at x1 x2 y1 y2
            have x0' := x0 (tn m) hmn
            have y0' := y0 (tn m) hmn
            rw [Nat.zero_add] at x0' y0'
            have e8 : (8 : Int32) * d + m = Int32.ofNat (8 * tn d + tn m) := by rw [← p_lin8 (by omega), p_tnb hd.1, p_tnb hm.1]
            have xd13 := p_ix (a := d) (n := 13) hd.1 (by show _ < (13 : Int); omega)
            have xm := p_ix (a := m) (n := 8) hm.1 (by show _ < (8 : Int); omega)
            have xi := p_ixn (k := 8 * tn d + tn m) (n := 104) (by omega) (by omega)
            obtain ⟨v, hv, hv'⟩ : ∃ v, (if w = 0 then (if ¬ (d < 0 ∨ 13 ≤ tn d) then (if ¬ (m < 0 ∨ 8 ≤ tn m) then some (I1, J1, ρ1, (I1 (50 + (tn d)) (tn m))) else none) else none) else (if w = 1 then (if ¬ (d < 0 ∨ 12 ≤ tn d) then (if ¬ (m < 0 ∨ 8 ≤ tn m) then some (I1, J1, ρ1, (I1 (64 + (tn d)) (tn m))) else none) else none) else (if w = 2 then (if ¬ (d < 0 ∨ 13 ≤ tn d) then some (I1, J1, ρ1, (I1 76 (tn d))) else none) else (if ¬ (d < 0 ∨ 13 ≤ tn d) then some (I1, J1, ρ1, (I1 77 (tn d))) else none)))) = some (I1, J1, ρ1, v) ∧ (if w = 0 then (if ¬ ((((8) * d) + m) < 0 ∨ 104 ≤ tn (((8) * d) + m)) then some (X1, (X1 100 (tn (((8) * d) + m)))) else none) else (if w = 1 then (if ¬ ((((8) * d) + m) < 0 ∨ 96 ≤ tn (((8) * d) + m)) then some (X1, (X1 101 (tn (((8) * d) + m)))) else none) else (if w = 2 then (if ¬ (d < 0 ∨ 13 ≤ tn d) then some (X1, (X1 102 (tn d))) else none) else (if ¬ (d < 0 ∨ 13 ≤ tn d) then some (X1, (X1 103 (tn d))) else none)))) = some (X1, v) := by
              rw [e8, p_tnI (by omega)]
              rw [p_tnI (by omega)] at xi
              by_cases w0 : w = 0
              · rw [if_pos w0, if_pos w0, if_pos xd13, if_pos xm, if_pos xi, x0', y0']
                exact ⟨_, rfl, rfl⟩
              rw [if_neg w0, if_neg w0]
              by_cases w1 : w = 1
              · have hdd : tn d < tn (I 89 3) := by
                  have : ¬ d.toInt = (I 89 3).toInt := fun z => hx ⟨by rw [w1]; rfl, z⟩
                  omega
                have xg := c5.2.1 (tn d) hdd (tn m) hmn
                have yg := d4.2.1 (tn d) hdd (tn m) hmn
                rw [Nat.zero_add] at xg yg
                have xi' := p_ixn (k := 8 * tn d + tn m) (n := 96) (by omega) (by omega)
                rw [p_tnI (by omega)] at xi'
                rw [if_pos w1, if_pos w1, if_pos (p_ix hd.1 (by show _ < (12 : Int); omega)), if_pos xm, if_pos xi', xg, yg]
                exact ⟨_, rfl, rfl⟩
              rw [if_neg w1, if_neg w1]
              by_cases w2 : w = 2
              · rw [if_pos w2, if_pos w2, if_pos xd13, if_pos xd13, x1, y1]
                exact ⟨_, rfl, rfl⟩
              · rw [if_neg w2, if_neg w2, if_pos xd13, if_pos xd13, x2, y2]
                exact ⟨_, rfl, rfl⟩
            refine ⟨I1, J1, ρ1, v, X1, ?_, ?_, d2.inv h⟩
            · unfold f_X11_told
              rw [g1]
              simp only [Option.bind_some, ocase_so, c_isMan, m1, p_b01]
              rw [cd, if_neg (by omega), if_neg (by rw [fa_lt]; show ¬ _ < (0 : Int); omega), if_neg (by rw [fa_lt]; show ¬ (3 : Int) < _; omega), J4c]
              simp only [Option.bind_some, scase_r]
              rw [c1]
              exact hv
            · unfold f_X12_told
              rw [ir1]
              simp only [Option.bind_some, p_b01, m_in, n3]
              rw [if_neg (by omega), if_neg (by show ¬ ¬ ((0 : Int) ≤ _ ∧ _ ≤ _); omega), im1]
              simp only [Option.bind_some, p_b01]
              rw [if_neg (by omega), if_neg (by show ¬ ¬ ((0 : Int) ≤ _ ∧ _ ≤ (3 : Int)); omega)]
              rw [n3] at J4m
              rw [J4m]
              simp only [Option.bind_some, scase_r]
              rw [d1]
              exact hv'
        · refine ⟨I, J, ρ, -7, I, ?_, ?_, h⟩
          · unfold f_X11_told
            rw [g1]
            simp only [Option.bind_some, ocase_so, c_isMan, m1, p_b01]
            rw [cd, if_neg (by omega)]
            by_cases q : w.toInt < 0
            · rw [if_pos (by rw [fa_lt]; exact q)]
            · rw [if_neg (by rw [fa_lt]; exact q), if_pos (by rw [fa_lt]; show (3 : Int) < _; omega)]
          · unfold f_X12_told
            rw [ir]
            simp only [Option.bind_some, p_b01, m_in]
            rw [if_neg (by omega), if_neg (by show ¬ ¬ ((0 : Int) ≤ _ ∧ _ ≤ _); omega), im]
            simp only [Option.bind_some, p_b01]
            rw [if_neg (by omega), if_pos (by show ¬ ((0 : Int) ≤ _ ∧ _ ≤ (3 : Int)); omega)]
      · refine ⟨I, J, ρ, -5, I, ?_, ?_, h⟩
        · unfold f_X11_told
          rw [g1]
          simp only [Option.bind_some, ocase_so, c_isMan, m1, p_b01]
          rw [cd, if_pos hm]
        · unfold f_X12_told
          rw [ir]
          simp only [Option.bind_some, p_b01, m_in]
          rw [if_neg (by omega), if_neg (by show ¬ ¬ ((0 : Int) ≤ _ ∧ _ ≤ _); omega), im]
          simp only [Option.bind_some, p_b01]
          rw [if_pos hm]
    · refine ⟨I, J, ρ, -5, I, ?_, ?_, h⟩
      · unfold f_X11_told
        rw [g1]
        simp only [Option.bind_some, ocase_so, c_isMan, m1, p_b01]
        by_cases q : d.toInt < 0
        · rw [if_pos (by rw [fa_lt]; exact q)]
        · rw [if_neg (by rw [fa_lt]; exact q), if_pos (by rw [fa_lt, t1]; omega)]
      · unfold f_X12_told
        rw [ir]
        simp only [Option.bind_some, p_b01, m_in]
        rw [if_neg (by omega), if_pos (by show ¬ ((0 : Int) ≤ _ ∧ _ ≤ _); omega)]
  · have g1 := rule_out J N h.2.2.2.2.2.2.1 hr
    refine ⟨I, J, ρ, -5, I, ?_, ?_, h⟩
    · unfold f_X11_told
      rw [g1]
      simp only [Option.bind_some, ocase_no]
    · unfold f_X12_told
      rw [ir]
      simp only [Option.bind_some, p_b01]
      rw [if_pos hr]
theorem op_ends {ρ : Rh} {I : Nat → Nat → Int32} {J : Nat → Nat → Int64} (N : Nat) (h : Inv ρ I J) (hN : 200 ≤ N) (r w : Int32) : ∃ I1 J1 ρ1 v I2, f_X11_ends N ρ I J r w = some (I1, J1, ρ1, v) ∧ f_X12_ends N ρ1 I1 J1 r w = some (I2, v) ∧ Inv ρ1 I2 J1 := by
  have t1 := h.2.2.1.1
  have t5 := h.2.2.1.2.2.2.2.1
  have m1 := h.2.1.1
  have m2 := h.2.1.2.1
  have r2 := h.2.2.2.2.2.2.1.2.1
  unfold bw at t5 m2 r2
  have td := p_tnc (I 89 3) (by omega)
  have tm := p_tnc (I 89 0) m2.1
  have ir := m_isRule N ρ I J r (by omega)
  by_cases hr : 0 ≤ r.toInt ∧ r.toInt < (I 89 9).toInt
  · obtain ⟨a, g1, hR⟩ := ruleAt_rx N h hr.1 hr.2
    by_cases hw : 0 ≤ w.toInt ∧ w.toInt ≤ 2
    · obtain ⟨t, l, b, hh, L, hL⟩ := lx_of h
      obtain ⟨I1, J1, ρ1, c1, c2, c3, c4, c5, c6⟩ := c_sailP hN h (SX.refl ρ I J) hR hL
      obtain ⟨X1, d1, d2, d3, d4⟩ := m_goesP hN h c2 hR hL
      obtain ⟨P, hP⟩ : ∃ P, P = PV I (tn r) b hh L (I 89 5) (fun _ => true) (-1) := ⟨_, rfl⟩
      rw [← hP] at c5 d4
      have hmnP : vmn P = tn (I 89 0) := by rw [hP]; rfl
      rw [p_tnb hr.1] at d1
      have n9 : I1 89 9 = I 89 9 := c2.1 89 9 (by unfold SC; omega)
      have n0 : I1 89 0 = I 89 0 := c2.1 89 0 (by unfold SC; omega)
      have n3 : I1 89 3 = I 89 3 := c2.1 89 3 (by unfold SC; omega)
      have ir1 := m_isRule N ρ1 I1 J1 r (by rw [n9]; omega)
      rw [n9] at ir1
      have nc : I1 42 0 = Int32.ofNat (tn (I 89 0)) := by rw [c2.1 42 0 (by unfold SC; omega), m1]; exact (p_tnb m2.1).symm
      have nm : X1 89 0 = Int32.ofNat (tn (I 89 0)) := by rw [d2.1 89 0 (by unfold SC; omega)]; exact (p_tnb m2.1).symm
      have n45 : I1 45 0 = Int32.ofNat (tn (I 89 3)) := by rw [c2.1 45 0 (by unfold SC; omega), t1]; exact (p_tnb (by omega)).symm
      have n93 : X1 89 3 = Int32.ofNat (tn (I 89 3)) := by rw [d2.1 89 3 (by unfold SC; omega)]; exact (p_tnb (by omega)).symm
      have lc : ∀ d, d ≤ tn (I 89 3) → f_X10_living N ρ1 I1 J1 (Int32.ofNat d) = some (vliv (trj P d 0 (V0 I 0)).1 (tn (I 89 0))) := fun d hd => by
        rw [c_living nc (by omega) (by omega) hN]
        exact congrArg some (vliv_cong (fun m hm => by have := (c5.1 d hd).1 m (by rw [hmnP]; exact hm); rw [Nat.zero_add] at this; exact this))
      have lm : ∀ d, d ≤ tn (I 89 3) → f_X12_living N ρ1 X1 J1 (Int32.ofNat d) = some (vliv (trj P d 0 (V0 I 0)).1 (tn (I 89 0))) := fun d hd => by
        rw [m_living nm (by omega) (by omega) hN]
        exact congrArg some (vliv_cong (fun m hm => by have := (d4.1 d hd).1 m (by rw [hmnP]; exact hm); rw [Nat.zero_add] at this; exact this))
      have both : ∀ (e d fc fm : Nat), d + e = tn (I 89 3) → e < fc → e < fm → (f_X10_firstDeath_2 N I1 J1 ρ1 fc (Int32.ofNat d) = some (Sum.inr ()) ∧ f_X12_ends_55 N X1 J1 ρ1 fm (Int32.ofNat d) = some (Sum.inr ())) ∨ ∃ v, f_X10_firstDeath_2 N I1 J1 ρ1 fc (Int32.ofNat d) = some (Sum.inl v) ∧ f_X12_ends_55 N X1 J1 ρ1 fm (Int32.ofNat d) = some (Sum.inl (X1, v)) := by
        intro e
        induction e with
        | zero =>
          intro d fc fm z1 z2 z3
          cases fc with
          | zero => omega
          | succ fc =>
            cases fm with
            | zero => omega
            | succ fm =>
              left
              constructor
              · rw [f_X10_firstDeath_2.eq_2, n45, if_pos ((p_ge (by omega) (by omega)).mpr (by omega))]
              · rw [f_X12_ends_55.eq_2, n93, if_pos ((p_ge (by omega) (by omega)).mpr (by omega))]
        | succ e ih =>
          intro d fc fm z1 z2 z3
          cases fc with
          | zero => omega
          | succ fc =>
            cases fm with
            | zero => omega
            | succ fm =>
              have stc : f_X10_firstDeath_2 N I1 J1 ρ1 (fc + 1) (Int32.ofNat d) = if vliv (trj P d 0 (V0 I 0)).1 (tn (I 89 0)) ≤ vliv (trj P (d + 1) 0 (V0 I 0)).1 (tn (I 89 0)) then f_X10_firstDeath_2 N I1 J1 ρ1 fc (Int32.ofNat (d + 1)) else some (Sum.inl (Int32.ofNat d)) := by
                rw [f_X10_firstDeath_2.eq_2, n45, if_neg (fun z => absurd ((p_ge (by omega) (by omega)).mp z) (by omega)), p_succ (by omega), lc _ (by omega), lc _ (by omega)]
                rfl
              have stm : f_X12_ends_55 N X1 J1 ρ1 (fm + 1) (Int32.ofNat d) = if vliv (trj P d 0 (V0 I 0)).1 (tn (I 89 0)) ≤ vliv (trj P (d + 1) 0 (V0 I 0)).1 (tn (I 89 0)) then f_X12_ends_55 N X1 J1 ρ1 fm (Int32.ofNat (d + 1)) else some (Sum.inl (X1, Int32.ofNat d)) := by
                rw [f_X12_ends_55.eq_2, n93, if_neg (fun z => absurd ((p_ge (by omega) (by omega)).mp z) (by omega)), p_succ (by omega), lm _ (by omega), lm _ (by omega)]
                rfl
              rw [stc, stm]
              by_cases q : vliv (trj P d 0 (V0 I 0)).1 (tn (I 89 0)) ≤ vliv (trj P (d + 1) 0 (V0 I 0)).1 (tn (I 89 0))
              · rw [if_pos q, if_pos q]
                exact ih (d + 1) fc fm (by omega) (by omega) (by omega)
              · rw [if_neg q, if_neg q]
                exact Or.inr ⟨_, rfl, rfl⟩
      by_cases w2 : w.toInt = 2
      · have w2' : w = 2 := p_eq w2
        have B := both (tn (I 89 3)) 0 N N (by omega) (by omega) (by omega)
        rw [show Int32.ofNat 0 = (0 : Int32) from rfl] at B
        have cl : ∀ v, f_X10_firstDeath N ρ1 I1 J1 = some v → f_X11_ends N ρ I J r w = some (I1, J1, ρ1, v) := by
          intro v hv
          unfold f_X11_ends
          rw [g1]
          simp only [Option.bind_some, ocase_so]
          rw [if_neg (by rw [fa_lt]; show ¬ _ < (0 : Int); omega), if_pos (by rw [fa_le]; show _ ≤ (2 : Int); omega), c1]
          simp only [Option.bind_some]
          rw [if_neg (by rw [w2']; decide), if_neg (by rw [w2']; decide), hv]
          rfl
        have ml : ∀ T, ((f_X12_ends_55 N X1 J1 ρ1 N (0)).bind fun j8 => scase j8 (fun r => some r) (fun j8 => some (X1, (-1)))) = T → f_X12_ends N ρ1 I1 J1 r w = T := by
          intro T hT
          unfold f_X12_ends
          rw [ir1]
          simp only [Option.bind_some, p_b01, m_in]
          rw [if_neg (by omega), if_neg (by show ¬ ¬ ((0 : Int) ≤ _ ∧ _ ≤ (2 : Int)); omega), d1]
          simp only [Option.bind_some]
          rw [if_pos (by rw [w2']; decide)]
          exact hT
        rcases B with ⟨B1, B2⟩ | ⟨v, B1, B2⟩
        · refine ⟨I1, J1, ρ1, -1, X1, cl _ ?_, ml _ ?_, d2.inv h⟩
          · unfold f_X10_firstDeath; rw [B1]; rfl
          · rw [B2]; rfl
        · refine ⟨I1, J1, ρ1, v, X1, cl _ ?_, ml _ ?_, d2.inv h⟩
          · unfold f_X10_firstDeath; rw [B1]; rfl
          · rw [B2]; rfl
      · have mpre : ∀ T, (if w = 0 then some (X1, (X1 89 23)) else (Option.bind (f_X12_living N ρ1 X1 J1 (X1 89 3)) fun v4 => some (X1, v4))) = T → f_X12_ends N ρ1 I1 J1 r w = T := by
          intro T hT
          unfold f_X12_ends
          rw [ir1]
          simp only [Option.bind_some, p_b01, m_in]
          rw [if_neg (by omega), if_neg (by show ¬ ¬ ((0 : Int) ≤ _ ∧ _ ≤ (2 : Int)); omega), d1]
          simp only [Option.bind_some]
          rw [if_neg (by rw [fa_le]; show ¬ (2 : Int) ≤ _; omega)]
          exact hT
        have cpre : ∀ T, (if w = 0 then some (I1, J1, ρ1, (I1 48 16)) else (if w = 1 then (Option.bind (f_X10_living N ρ1 I1 J1 (I1 45 0)) fun v5 => some (I1, J1, ρ1, v5)) else (Option.bind (f_X10_firstDeath N ρ1 I1 J1) fun v4 => some (I1, J1, ρ1, v4)))) = T → f_X11_ends N ρ I J r w = T := by
          intro T hT
          unfold f_X11_ends
          rw [g1]
          simp only [Option.bind_some, ocase_so]
          rw [if_neg (by rw [fa_lt]; show ¬ _ < (0 : Int); omega), if_pos (by rw [fa_le]; show _ ≤ (2 : Int); omega), c1]
          exact hT
        by_cases w0 : w.toInt = 0
        · have w0' : w = 0 := p_eq w0
          refine ⟨I1, J1, ρ1, vLd P (V0 I 0) (tn (I 89 3)), X1, cpre _ ?_, mpre _ ?_, d2.inv h⟩
          · rw [if_pos w0', c5.2.2]; rfl
          · rw [if_pos w0', d4.2.2]; rfl
        · have w1' : w = 1 := p_eq (by show _ = (1 : Int); omega)
          refine ⟨I1, J1, ρ1, vliv (trj P (tn (I 89 3)) 0 (V0 I 0)).1 (tn (I 89 0)), X1, cpre _ ?_, mpre _ ?_, d2.inv h⟩
          · rw [if_neg (by rw [w1']; decide), if_pos w1', n45, lc _ (Nat.le_refl _)]; rfl
          · rw [if_neg (by rw [w1']; decide), n93, lm _ (Nat.le_refl _)]; rfl
    · refine ⟨I, J, ρ, -7, I, ?_, ?_, h⟩
      · unfold f_X11_ends
        rw [g1]
        simp only [Option.bind_some, ocase_so]
        by_cases q : w.toInt < 0
        · rw [if_pos (by rw [fa_lt]; exact q)]
        · rw [if_neg (by rw [fa_lt]; exact q), if_neg (by rw [fa_le]; show ¬ _ ≤ (2 : Int); omega)]
      · unfold f_X12_ends
        rw [ir]
        simp only [Option.bind_some, p_b01, m_in]
        rw [if_neg (by omega), if_pos (by show ¬ ((0 : Int) ≤ _ ∧ _ ≤ (2 : Int)); omega)]
  · have g1 := rule_out J N h.2.2.2.2.2.2.1 hr
    refine ⟨I, J, ρ, -5, I, ?_, ?_, h⟩
    · unfold f_X11_ends
      rw [g1]
      simp only [Option.bind_some, ocase_no]
    · unfold f_X12_ends
      rw [ir]
      simp only [Option.bind_some, p_b01]
      rw [if_pos hr]
theorem op_judge {ρ : Rh} {I : Nat → Nat → Int32} {J : Nat → Nat → Int64} (N : Nat) (h : Inv ρ I J) (hN : 200 ≤ N) (r d s : Int32) : ∃ I1 J1 ρ1 v I2, f_X11_judge N ρ I J r d s = some (I1, J1, ρ1, v) ∧ f_X12_judge N ρ1 I1 J1 r d s = some (I2, v) ∧ Inv ρ1 I2 J1 := by
  have t1 := h.2.2.1.1
  have t5 := h.2.2.1.2.2.2.2.1
  have m1 := h.2.1.1
  have m2 := h.2.1.2.1
  have r2 := h.2.2.2.2.2.2.1.2.1
  unfold bw at t5 m2 r2
  have td := p_tnc (I 89 3) (by omega)
  have tm := p_tnc (I 89 0) m2.1
  have ir := m_isRule N ρ I J r (by omega)
  have sh := h.1
  have hs := h.2.2.2.2.2.1
  have e3 : (I 89 3 - 1).toInt = (I 89 3).toInt - 1 := p_sub (b := 1) (by show _ ≤ _ - (1 : Int); omega) (by show _ - (1 : Int) < _; omega)
  by_cases hr : 0 ≤ r.toInt ∧ r.toInt < (I 89 9).toInt
  · obtain ⟨a, g1, hR⟩ := ruleAt_rx N h hr.1 hr.2
    by_cases hd : 0 ≤ d.toInt ∧ d.toInt < (I 89 3).toInt
    · have cd : ∀ T : Option ((Nat → Nat → Int32) × (Nat → Nat → Int64) × Rh × Int32), (if d < 0 then some (I, J, ρ, (-5 : Int32)) else (if d < I 45 0 then T else some (I, J, ρ, -5))) = T := by
        intro T
        rw [if_neg (by rw [fa_lt]; show ¬ _ < (0 : Int); omega), if_pos (by rw [fa_lt, t1]; omega)]
      by_cases hb : 0 ≤ s.toInt ∧ s.toInt < 4
      · have g := sheet_in (ρ := ρ) (I := I) (J := J) N hb.1 hb.2
        have ts := p_tnc s hb.1
        have tdd := p_tnc d hd.1
        have h4 : tn s < 4 := by omega
        obtain ⟨k1, k2, k3⟩ := sheet_k sh h4
        have x := p_ix (a := s) (n := 4) hb.1 (by show _ < (4 : Int); omega)
        have ms := c_miss sh (J := J) N hs h4
        obtain ⟨q1, q2, q3, q4, q5, q6⟩ := hs (tn s) h4
        by_cases hmi : (I 107 (tn s)).toInt = -1
        · refine ⟨I, J, ρ, -11, I, ?_, ?_, h⟩
          · unfold f_X11_judge
            rw [g1]
            simp only [Option.bind_some, ocase_so]
            rw [cd, g]
            simp only [Option.bind_some, ocase_so]
            rw [if_pos k1, ms]
            simp only [Option.bind_some, p_b01]
            rw [if_neg (by omega)]
          · unfold f_X12_judge
            rw [ir]
            simp only [Option.bind_some, p_b01, m_in, e3]
            rw [if_neg (by omega), if_neg (by show ¬ ¬ ((0 : Int) ≤ _ ∧ _ ≤ _); omega), if_neg (by show ¬ ¬ ((0 : Int) ≤ _ ∧ _ ≤ (3 : Int)); omega), if_pos x, if_pos (p_eq hmi)]
        · have n1 : ¬ I 107 (tn s) = -1 := fun z => hmi (by rw [z]; rfl)
          by_cases hsz : I 108 (tn s) = I 89 0
          · obtain ⟨t, l, b, hh, L, hL⟩ := lx_of h
            obtain ⟨I1, J1, ρ1, c1, c2, c3, c4, c5, c6⟩ := c_sailP hN h (SX.refl ρ I J) hR hL
            obtain ⟨X1, d1, d2, d3, d4⟩ := m_goesP hN h c2 hR hL
            obtain ⟨P, hP⟩ : ∃ P, P = PV I (tn r) b hh L (I 89 5) (fun _ => true) (-1) := ⟨_, rfl⟩
            rw [← hP] at c5 d4
            have hmnP : vmn P = tn (I 89 0) := by rw [hP]; rfl
            rw [p_tnb hr.1] at d1
            have n9 : I1 89 9 = I 89 9 := c2.1 89 9 (by unfold SC; omega)
            have n0 : I1 89 0 = I 89 0 := c2.1 89 0 (by unfold SC; omega)
            have n3 : I1 89 3 = I 89 3 := c2.1 89 3 (by unfold SC; omega)
            have ir1 := m_isRule N ρ1 I1 J1 r (by rw [n9]; omega)
            rw [n9] at ir1
            have shρ : Sh ρ1 := (c2.inv h).1
            obtain ⟨kk1, kk2, kk3⟩ := sheet_k shρ h4
            have nc : I1 42 0 = Int32.ofNat (tn (I 89 0)) := by rw [c2.1 42 0 (by unfold SC; omega), m1]; exact (p_tnb m2.1).symm
            have nm : X1 89 0 = Int32.ofNat (tn (I 89 0)) := by rw [d2.1 89 0 (by unfold SC; omega)]; exact (p_tnb m2.1).symm
            have cg : ∀ m, m < tn (I 89 0) → I1 (64 + tn d) m = vgot P (tn d) (trj P (tn d) 0 (V0 I 0)) m := fun m hm => by
              have := c5.2.1 (tn d) (by omega) m (by rw [hmnP]; exact hm)
              rw [Nat.zero_add] at this; exact this
            have mg : ∀ m, m < tn (I 89 0) → X1 101 (8 * tn d + m) = vgot P (tn d) (trj P (tn d) 0 (V0 I 0)) m := fun m hm => by
              have := d4.2.1 (tn d) (by omega) m (by rw [hmnP]; exact hm)
              rw [Nat.zero_add] at this; exact this
            have both : ∀ (e k fc fm : Nat), k + e = tn (I 89 0) → e < fc → e < fm → (f_X11_judge_88 N I1 J1 ρ1 d (81 + 2 * tn s) fc (Int32.ofNat k) = some (Sum.inr ()) ∧ f_X12_judge_74 N X1 J1 ρ1 d s fm (Int32.ofNat k) = some (Sum.inr ())) ∨ ∃ v, f_X11_judge_88 N I1 J1 ρ1 d (81 + 2 * tn s) fc (Int32.ofNat k) = some (Sum.inl (I1, J1, ρ1, v)) ∧ f_X12_judge_74 N X1 J1 ρ1 d s fm (Int32.ofNat k) = some (Sum.inl (X1, v)) := by
              intro e
              induction e with
              | zero =>
                intro k fc fm z1 z2 z3
                cases fc with
                | zero => omega
                | succ fc =>
                  cases fm with
                  | zero => omega
                  | succ fm =>
                    left
                    constructor
                    · rw [f_X11_judge_88.eq_2, nc, if_pos ((p_ge (by omega) (by omega)).mpr (by omega))]
                    · rw [f_X12_judge_74.eq_2, nm, if_pos ((p_ge (by omega) (by omega)).mpr (by omega))]
              | succ e ih =>
                intro k fc fm z1 z2 z3
                cases fc with
                | zero => omega
                | succ fc =>
                  cases fm with
                  | zero => omega
                  | succ fm =>
                    obtain ⟨G, hG⟩ : ∃ G, G = vgot P (tn d) (trj P (tn d) 0 (V0 I 0)) k := ⟨_, rfl⟩
                    have eC : I1 (82 + 2 * tn s) k = I 109 (40 * tn s + k) := (c2.1 _ k (by unfold SC; omega)).trans (q6 k (by omega))
                    have eM : X1 109 (40 * tn s + k) = I 109 (40 * tn s + k) := d2.1 109 _ (by unfold SC; omega)
                    have xk := p_ixn (k := k) (n := 40) (by omega) (by omega)
                    have xk8 := p_ixn (k := k) (n := 8) (by omega) (by omega)
                    have xdd := p_ix (a := d) (n := 12) hd.1 (by show _ < (12 : Int); omega)
                    have e8 : (8 : Int32) * d + Int32.ofNat k = Int32.ofNat (8 * tn d + k) := by rw [← p_lin8 (by omega), p_tnb hd.1]
                    have e40 : (40 : Int32) * s + Int32.ofNat k = Int32.ofNat (40 * tn s + k) := by rw [← p_lin40 (by omega), p_tnb hb.1]
                    have tk := p_tnI (n := k) (by omega)
                    rw [tk] at xk xk8
                    have stc : f_X11_judge_88 N I1 J1 ρ1 d (81 + 2 * tn s) (fc + 1) (Int32.ofNat k) = if I 109 (40 * tn s + k) = G then f_X11_judge_88 N I1 J1 ρ1 d (81 + 2 * tn s) fc (Int32.ofNat (k + 1)) else some (Sum.inl (I1, J1, ρ1, Int32.ofNat k)) := by
                      rw [f_X11_judge_88.eq_2, nc, if_neg (fun z => absurd ((p_ge (by omega) (by omega)).mp z) (by omega)), if_pos kk1, kk2]
                      simp only [Option.bind_some, kk3, tk]
                      rw [if_pos trivial, if_pos xk, if_pos xdd, if_pos xk8, eC, cg k (by omega), ← hG, p_succ (by omega)]
                    have stm : f_X12_judge_74 N X1 J1 ρ1 d s (fm + 1) (Int32.ofNat k) = if G = I 109 (40 * tn s + k) then f_X12_judge_74 N X1 J1 ρ1 d s fm (Int32.ofNat (k + 1)) else some (Sum.inl (X1, Int32.ofNat k)) := by
                      rw [f_X12_judge_74.eq_2, nm, if_neg (fun z => absurd ((p_ge (by omega) (by omega)).mp z) (by omega)), e8, e40, if_pos (p_ixn (by omega) (by omega)), if_pos (p_ixn (by omega) (by omega)), p_tnI (by omega), p_tnI (by omega), eM, mg k (by omega), ← hG, p_succ (by omega)]
                    rw [stc, stm]
                    by_cases q : G = I 109 (40 * tn s + k)
                    · rw [if_pos q.symm, if_pos q]
                      exact ih (k + 1) fc fm (by omega) (by omega) (by omega)
                    · rw [if_neg (fun z => q z.symm), if_neg q]
                      exact Or.inr ⟨_, rfl, rfl⟩
            have B := both (tn (I 89 0)) 0 N N (by omega) (by omega) (by omega)
            rw [show Int32.ofNat 0 = (0 : Int32) from rfl] at B
            have cl : ∀ T, ((f_X11_judge_88 N I1 J1 ρ1 d (81 + 2 * tn s) N (0)).bind fun j17 => scase j17 (fun r => some r) (fun j17 => some (I1, J1, ρ1, (-1)))) = T → f_X11_judge N ρ I J r d s = T := by
              intro T hT
              unfold f_X11_judge
              rw [g1]
              simp only [Option.bind_some, ocase_so]
              rw [cd, g]
              simp only [Option.bind_some, ocase_so]
              rw [if_pos k1, ms]
              simp only [Option.bind_some, p_b01]
              rw [if_pos hmi, if_pos (q2.trans (hsz.trans m1.symm)), c1]
              exact hT
            have ml : ∀ T, ((f_X12_judge_74 N X1 J1 ρ1 d s N (0)).bind fun j10 => scase j10 (fun r => some r) (fun j10 => some (X1, (-1)))) = T → f_X12_judge N ρ1 I1 J1 r d s = T := by
              intro T hT
              have n107 : I1 107 (tn s) = I 107 (tn s) := c2.1 107 _ (by unfold SC; omega)
              have n108 : I1 108 (tn s) = I 108 (tn s) := c2.1 108 _ (by unfold SC; omega)
              unfold f_X12_judge
              rw [ir1]
              simp only [Option.bind_some, p_b01, m_in, n3, e3, n107, n108, n0]
              rw [if_neg (by omega), if_neg (by show ¬ ¬ ((0 : Int) ≤ _ ∧ _ ≤ _); omega), if_neg (by show ¬ ¬ ((0 : Int) ≤ _ ∧ _ ≤ (3 : Int)); omega), if_pos x, if_neg n1, if_pos x, if_pos hsz, d1]
              exact hT
            rcases B with ⟨B1, B2⟩ | ⟨v, B1, B2⟩
            · refine ⟨I1, J1, ρ1, -1, X1, cl _ ?_, ml _ ?_, d2.inv h⟩
              · rw [B1]; rfl
              · rw [B2]; rfl
            · refine ⟨I1, J1, ρ1, v, X1, cl _ ?_, ml _ ?_, d2.inv h⟩
              · rw [B1]; rfl
              · rw [B2]; rfl
          · refine ⟨I, J, ρ, -2, I, ?_, ?_, h⟩
            · unfold f_X11_judge
              rw [g1]
              simp only [Option.bind_some, ocase_so]
              rw [cd, g]
              simp only [Option.bind_some, ocase_so]
              rw [if_pos k1, ms]
              simp only [Option.bind_some, p_b01]
              rw [if_pos hmi, if_neg (fun z => hsz (q2.symm.trans (z.trans m1)))]
            · unfold f_X12_judge
              rw [ir]
              simp only [Option.bind_some, p_b01, m_in, e3]
              rw [if_neg (by omega), if_neg (by show ¬ ¬ ((0 : Int) ≤ _ ∧ _ ≤ _); omega), if_neg (by show ¬ ¬ ((0 : Int) ≤ _ ∧ _ ≤ (3 : Int)); omega), if_pos x, if_neg n1, if_pos x, if_neg hsz]
      · refine ⟨I, J, ρ, -2, I, ?_, ?_, h⟩
        · unfold f_X11_judge
          rw [g1]
          simp only [Option.bind_some, ocase_so]
          rw [cd, sheet_out N hb]
          rfl
        · unfold f_X12_judge
          rw [ir]
          simp only [Option.bind_some, p_b01, m_in, e3]
          rw [if_neg (by omega), if_neg (by show ¬ ¬ ((0 : Int) ≤ _ ∧ _ ≤ _); omega), if_pos (by show ¬ ((0 : Int) ≤ _ ∧ _ ≤ (3 : Int)); omega)]
    · refine ⟨I, J, ρ, -5, I, ?_, ?_, h⟩
      · unfold f_X11_judge
        rw [g1]
        simp only [Option.bind_some, ocase_so]
        by_cases q : d.toInt < 0
        · rw [if_pos (by rw [fa_lt]; exact q)]
        · rw [if_neg (by rw [fa_lt]; exact q), if_neg (by rw [fa_lt, t1]; omega)]
      · unfold f_X12_judge
        rw [ir]
        simp only [Option.bind_some, p_b01, m_in, e3]
        rw [if_neg (by omega), if_pos (by show ¬ ((0 : Int) ≤ _ ∧ _ ≤ _); omega)]
  · have g1 := rule_out J N h.2.2.2.2.2.2.1 hr
    refine ⟨I, J, ρ, -5, I, ?_, ?_, h⟩
    · unfold f_X11_judge
      rw [g1]
      simp only [Option.bind_some, ocase_no]
    · unfold f_X12_judge
      rw [ir]
      simp only [Option.bind_some, p_b01]
      rw [if_pos hr]
