/-! ===== the pure layer: calls that sail: home, until, told, ends ===== -/
theorem chn9 {ρ : Rh} {I : Nat → Nat → Int32} {J : Nat → Nat → Int64} (h0 : Inv ρ I J) (d : Nat) : chn I d ≤ 9 := by
  unfold chn
  split
  · rename_i h12
    have := (h0.2.2.2.1 d h12).2.2.1
    unfold bw at this
    have := p_tnc (I 92 d) this.1
    omega
  · omega
theorem HH_up {n r b h L : Nat} {I : Nat → Nat → Int32} {ra hid hides : Int32} {kb : Nat → Bool} {m : Nat} (hD : tn (I 89 3) ≤ 12) : HH 12 I r b h L ra kb hid hides m = 10 ^ (12 - tn (I 89 3)) * HH (tn (I 89 3)) I r b h L ra kb hid hides m := homeN_up hD (vS_le hD rfl)
theorem HH_le {ρ : Rh} {I : Nat → Nat → Int32} {J : Nat → Nat → Int64} (h0 : Inv ρ I J) {r b h L : Nat} {ra hid hides : Int32} {kb : Nat → Bool} {m : Nat} (hD : tn (I 89 3) ≤ 12) : HH (tn (I 89 3)) I r b h L ra kb hid hides m ≤ 10 ^ tn (I 89 3) := homeN_le (fun d _ => chn9 h0 d) (vS_le hD rfl)
/-- a man's HOME over what the model's voyage left -/
theorem m_homeX {N : Nat} (hN : 200 ≤ N) {ρ0 ρ : Rh} {I0 X : Nat → Nat → Int32} {J0 J : Nat → Nat → Int64} (h0 : Inv ρ0 I0 J0) (hS : SX ρ0 I0 J0 ρ X J) {r b h L : Nat} {ra hid hides : Int32} {kb : Nat → Bool} (hA : mAll (PV I0 r b h L ra kb hid) 0 (tn (I0 89 3)) (V0 I0 hides) X) {m : Nat} (hm : m < tn (I0 89 0)) : f_X12_homeOf N ρ X J (Int32.ofNat m) = some (Int64.ofNat (HH (tn (I0 89 3)) I0 r b h L ra kb hid hides m)) := by
  have t5 := h0.2.2.1.2.2.2.2.1
  have m2 := h0.2.1.2.1
  unfold bw at t5 m2
  have td := p_tnc (I0 89 3) (by omega)
  have tm := p_tnc (I0 89 0) m2.1
  exact m_homeOf hN (by omega) (by omega) rfl ((hS.1 89 3 (by unfold SC; omega)).trans (p_tnb (by omega)).symm) (fun d => chn9 h0 d) (fun q hq => by
    rw [hS.1 92 q (by unfold SC; omega)]
    unfold chn
    rw [if_pos hq]
    exact (p_tnb (h0.2.2.2.1 q hq).2.2.1.1).symm) hA hm (by show tn (I0 89 0) ≤ 8; omega)
theorem ruleAt_rx {ρ : Rh} {I : Nat → Nat → Int32} {J : Nat → Nat → Int64} (N : Nat) (h0 : Inv ρ I J) {r : Int32} (hr0 : 0 ≤ r.toInt) (hr1 : r.toInt < (I 89 9).toInt) : ∃ a, f_X11_ruleAt N ρ I J r = some (some a) ∧ RX ρ I (tn r) a := by
  have r2 := h0.2.2.2.2.2.2.1.2.1
  unfold bw at r2
  have tt := p_tnc r hr0
  obtain ⟨a, g1, g2⟩ := rule_in J N h0.2.2.2.2.2.2.1 hr0 hr1
  obtain ⟨a', k1⟩ := rx_of h0 (r := tn r) (by omega)
  have : a' = a := by
    unfold f_X11_ruleAt at g1
    rw [if_neg (by rw [fa_lt]; show ¬ _ < (0 : Int); omega), if_neg (by rw [fa_le]; show ¬ (8 : Int) ≤ _; omega), if_pos (p_ix hr0 (by show _ < (8 : Int); omega)), k1.2.2.1] at g1
    exact Option.some.inj (Option.some.inj g1)
  subst this
  exact ⟨a', g1, k1⟩
theorem op_home {ρ : Rh} {I : Nat → Nat → Int32} {J : Nat → Nat → Int64} (N : Nat) (h : Inv ρ I J) (hN : 200 ≤ N) (r m p : Int32) : ∃ I1 J1 ρ1 v I2, f_X11_home N ρ I J r m p = some (I1, J1, ρ1, v) ∧ f_X12_home N ρ1 I1 J1 r m p = some (I2, v) ∧ Inv ρ1 I2 J1 := by
  have t5 := h.2.2.1.2.2.2.2.1
  have m1 := h.2.1.1
  have m2 := h.2.1.2.1
  have r2 := h.2.2.2.2.2.2.1.2.1
  unfold bw at t5 m2 r2
  have td := p_tnc (I 89 3) (by omega)
  have tm := p_tnc (I 89 0) m2.1
  have ir := m_isRule N ρ I J r (by omega)
  have im := m_isMan N ρ I J m (by omega)
  by_cases hr : 0 ≤ r.toInt ∧ r.toInt < (I 89 9).toInt
  · obtain ⟨a, g1, hR⟩ := ruleAt_rx N h hr.1 hr.2
    by_cases hm : 0 ≤ m.toInt ∧ m.toInt < (I 89 0).toInt
    · by_cases hp : 0 ≤ p.toInt ∧ p.toInt ≤ 1
      · obtain ⟨t, l, b, hh, L, hL⟩ := lx_of h
        have tr := p_tnc r hr.1
        have tmm := p_tnc m hm.1
        obtain ⟨I1, J1, ρ1, c1, c2, c3, c4, c5, c6⟩ := c_sailP hN h (SX.refl ρ I J) hR hL
        obtain ⟨X1, d1, d2, d3, d4⟩ := m_goesP hN h c2 hR hL
        have ho := m_homeX hN h d2 d4 (m := tn m) (by omega)
        have be := m_below hN (ρ := ρ1) (J := J1) (D := tn (I 89 3)) (by omega) ((d2.1 89 3 (by unfold SC; omega)).trans (p_tnb (by omega)).symm)
        have hle := HH_le h (r := tn r) (b := b) (h := hh) (L := L) (ra := I 89 5) (kb := fun _ => true) (hid := -1) (hides := 0) (m := tn m) (by omega)
        have hup := HH_up (n := 0) (I := I) (r := tn r) (b := b) (h := hh) (L := L) (ra := I 89 5) (kb := fun _ => true) (hid := -1) (hides := 0) (m := tn m) (by omega)
        have pD := pow12 (n := tn (I 89 3)) (by omega)
        have p12 : 10 ^ (12 - tn (I 89 3)) * 10 ^ tn (I 89 3) = 1000000000000 := by rw [← Nat.pow_add, show 12 - tn (I 89 3) + tn (I 89 3) = 12 by omega]
        have hbig := Nat.mul_le_mul_left (10 ^ (12 - tn (I 89 3))) hle
        obtain ⟨v, v1, v2⟩ := low_two hN (ρ := ρ1) (ρ' := ρ1) (I := I1) (I' := X1) (J := J1) (J' := J1) (A := J1 78 (tn m)) (B := Int64.ofNat (HH (tn (I 89 3)) I (tn r) b hh L (I 89 5) (fun _ => true) (-1) 0 (tn m))) (D := tn (I 89 3)) (z := (HH (tn (I 89 3)) I (tn r) b hh L (I 89 5) (fun _ => true) (-1) 0 (tn m) : Nat)) (part := p) (by omega) (by rw [c6 _ (by omega), hup, q_nL (by omega), Int.natCast_mul]) (q_nL (by omega)) (by rw [Int.natAbs_natCast]; omega) (by
          by_cases q : p.toInt = 0
          · exact Or.inl (p_eq q)
          · exact Or.inr (p_eq (by show _ = (1 : Int); omega)))
        have n9 : I1 89 9 = I 89 9 := c2.1 89 9 (by unfold SC; omega)
        have n0 : I1 89 0 = I 89 0 := c2.1 89 0 (by unfold SC; omega)
        have ir1 := m_isRule N ρ1 I1 J1 r (by rw [n9]; omega)
        have im1 := m_isMan N ρ1 I1 J1 m (by rw [n0]; omega)
        rw [n9] at ir1
        rw [n0] at im1
        refine ⟨I1, J1, ρ1, v, X1, ?_, ?_, d2.inv h⟩
        · unfold f_X11_home
          rw [g1]
          simp only [Option.bind_some, ocase_so, c_isMan, m1, p_b01]
          rw [if_neg (by omega), c_isPart]
          simp only [Option.bind_some, p_b01]
          rw [if_neg (by omega), c1]
          simp only [Option.bind_some]
          rw [if_pos (p_ix hm.1 (by show _ < (8 : Int); omega)), v1]
          rfl
        · unfold f_X12_home
          rw [ir1]
          simp only [Option.bind_some, p_b01]
          rw [if_neg (by omega), im1]
          simp only [Option.bind_some, p_b01, m_in]
          rw [if_neg (by omega), if_neg (by show ¬ ¬ ((0 : Int) ≤ _ ∧ _ ≤ (1 : Int)); omega)]
          rw [p_tnb hr.1] at d1
          rw [p_tnb hm.1] at ho
          rw [d1]
          simp only [Option.bind_some]
          rw [ho]
          simp only [Option.bind_some]
          rw [be]
          simp only [Option.bind_some]
          rw [v2]
          rfl
      · refine ⟨I, J, ρ, -4611686018427387904, I, ?_, ?_, h⟩
        · unfold f_X11_home
          rw [g1]
          simp only [Option.bind_some, ocase_so, c_isMan, m1, p_b01]
          rw [if_neg (by omega), c_isPart]
          simp only [Option.bind_some, p_b01]
          rw [if_pos hp]
        · unfold f_X12_home
          rw [ir]
          simp only [Option.bind_some, p_b01]
          rw [if_neg (by omega), im]
          simp only [Option.bind_some, p_b01, m_in]
          rw [if_neg (by omega), if_pos (by show ¬ ((0 : Int) ≤ _ ∧ _ ≤ (1 : Int)); omega)]
    · refine ⟨I, J, ρ, -4611686018427387904, I, ?_, ?_, h⟩
      · unfold f_X11_home
        rw [g1]
        simp only [Option.bind_some, ocase_so, c_isMan, m1, p_b01]
        rw [if_pos hm]
      · unfold f_X12_home
        rw [ir]
        simp only [Option.bind_some, p_b01]
        rw [if_neg (by omega), im]
        simp only [Option.bind_some, p_b01]
        rw [if_pos hm]
  · have g1 := rule_out J N h.2.2.2.2.2.2.1 hr
    refine ⟨I, J, ρ, -4611686018427387904, I, ?_, ?_, h⟩
    · unfold f_X11_home
      rw [g1]
      simp only [Option.bind_some, ocase_no]
    · unfold f_X12_home
      rw [ir]
      simp only [Option.bind_some, p_b01]
      rw [if_pos hr]
theorem op_until {ρ : Rh} {I : Nat → Nat → Int32} {J : Nat → Nat → Int64} (N : Nat) (h : Inv ρ I J) (hN : 200 ≤ N) (r m : Int32) : ∃ I1 J1 ρ1 v I2, f_X11_until N ρ I J r m = some (I1, J1, ρ1, v) ∧ f_X12_until N ρ1 I1 J1 r m = some (I2, v) ∧ Inv ρ1 I2 J1 := by
  have t1 := h.2.2.1.1
  have t5 := h.2.2.1.2.2.2.2.1
  have m1 := h.2.1.1
  have m2 := h.2.1.2.1
  have r2 := h.2.2.2.2.2.2.1.2.1
  have m4 := h.2.1.2.2.2.1
  unfold bw at t5 m2 r2
  have td := p_tnc (I 89 3) (by omega)
  have tm := p_tnc (I 89 0) m2.1
  have ir := m_isRule N ρ I J r (by omega)
  have im := m_isMan N ρ I J m (by omega)
  by_cases hr : 0 ≤ r.toInt ∧ r.toInt < (I 89 9).toInt
  · obtain ⟨a, g1, hR⟩ := ruleAt_rx N h hr.1 hr.2
    by_cases hm : 0 ≤ m.toInt ∧ m.toInt < (I 89 0).toInt
    · obtain ⟨t, l, b, hh, L, hL⟩ := lx_of h
      have tr := p_tnc r hr.1
      have tmm := p_tnc m hm.1
      obtain ⟨I1, J1, ρ1, c1, c2, c3, c4, c5, c6⟩ := c_sailP hN h (SX.refl ρ I J) hR hL
      obtain ⟨X1, d1, d2, d3, d4⟩ := m_goesP hN h c2 hR hL
      obtain ⟨P, hP⟩ : ∃ P, P = PV I (tn r) b hh L (I 89 5) (fun _ => true) (-1) := ⟨_, rfl⟩
      rw [← hP] at c5 d4
      obtain ⟨S, hSe⟩ : ∃ S, S = vS P (V0 I 0) (tn (I 89 3)) := ⟨_, rfl⟩
      have hSD := vS_le (P := P) (V := V0 I 0) (D := tn (I 89 3)) (by omega) rfl
      have hS2 := vLd_two (P := P) (V := V0 I 0) (D := tn (I 89 3)) (by omega) rfl
      have hmn : tn m < vmn P := by rw [hP]; show tn m < tn (I 89 0); omega
      have cs : ∀ d, d ≤ tn (I 89 3) → I1 (50 + d) (tn m) = (trj P d 0 (V0 I 0)).1 (tn m) := fun d hd => by
        have := (c5.1 d hd).1 (tn m) hmn
        rw [Nat.zero_add] at this; exact this
      have ms : ∀ d, d ≤ tn (I 89 3) → X1 100 (8 * d + tn m) = (trj P d 0 (V0 I 0)).1 (tn m) := fun d hd => by
        have := (d4.1 d hd).1 (tn m) hmn
        rw [Nat.zero_add] at this; exact this
      have ship : f_X10_shipDays N ρ1 I1 J1 = some (Int32.ofNat S) := by
        unfold f_X10_shipDays
        rw [c5.2.2, c2.1 45 0 (by unfold SC; omega), t1, hSe]
        rcases hS2 with ⟨y1, y2, y3⟩ | ⟨K, y1, y2, y3, y4⟩
        · rw [if_pos (show (trj P (tn (I 89 3)) 0 (V0 I 0)).2.2.2.1 = -1 from y1), y2]
          rw [p_tnb (by omega)]
        · rw [show (trj P (tn (I 89 3)) 0 (V0 I 0)).2.2.2.1 = Int32.ofNat K from y2, if_neg (neg1_ne (by omega)), y3, p_succ (by omega)]
      have j4 : (if ((X1 89 23) = (-1)) then some ((X1 89 3) - (1)) else some (X1 89 23)) = some (Int32.ofNat (S - 1)) := by
        rw [d4.2.2, d2.1 89 3 (by unfold SC; omega), hSe]
        rcases hS2 with ⟨y1, y2, y3⟩ | ⟨K, y1, y2, y3, y4⟩
        · rw [if_pos (show (trj P (tn (I 89 3)) 0 (V0 I 0)).2.2.2.1 = -1 from y1), y2]
          rw [← p_pred (by omega) (by omega), p_tnb (by omega)]
        · rw [show (trj P (tn (I 89 3)) 0 (V0 I 0)).2.2.2.1 = Int32.ofNat K from y2, if_neg (neg1_ne (by omega)), y3, Nat.add_sub_cancel]
      have hS1 : 1 ≤ S := by rw [hSe]; rcases hS2 with ⟨y1, y2, y3⟩ | ⟨K, y1, y2, y3, y4⟩ <;> omega
      -- both loops go alike from the second day on
      have both : ∀ (e d fc fm : Nat) (x : Int32), d + e = S → e < fc → e < fm → ∃ v, f_X11_until_35 N I1 J1 ρ1 m fc x (Int32.ofNat d) = some v ∧ f_X12_until_52 N X1 J1 ρ1 m (Int32.ofNat (S - 1)) fm x (Int32.ofNat d) = some v := by
        intro e
        induction e with
        | zero =>
          intro d fc fm x z1 z2 z3
          cases fc with
          | zero => omega
          | succ fc =>
            cases fm with
            | zero => omega
            | succ fm =>
              refine ⟨x, ?_, ?_⟩
              · rw [f_X11_until_35.eq_2, ship]
                simp only [Option.bind_some]
                rw [if_pos ((p_ge (by omega) (by omega)).mpr (by omega))]
              · rw [f_X12_until_52.eq_2, if_pos ((p_lt (by omega) (by omega)).mpr (by omega))]
        | succ e ih =>
          intro d fc fm x z1 z2 z3
          cases fc with
          | zero => omega
          | succ fc =>
            cases fm with
            | zero => omega
            | succ fm =>
              obtain ⟨v, f1, f2⟩ := ih (d + 1) fc fm (if (trj P d 0 (V0 I 0)).1 (tn m) ≤ 0 then x else Int32.ofNat d) (by omega) (by omega) (by omega)
              have xm := p_ix (a := m) (n := 8) hm.1 (by show _ < (8 : Int); omega)
              have xd := p_ixn (k := d) (n := 13) (by omega) (by omega)
              have x1 := p_ixn (k := 8 * d + tn m) (n := 104) (by omega) (by omega)
              have hj : ∀ y : Int32, (if y ≤ 0 then some x else some (Int32.ofNat d)) = some (if y ≤ 0 then x else Int32.ofNat d) := by intro y; split <;> rfl
              refine ⟨v, ?_, ?_⟩
              · rw [f_X11_until_35.eq_2, ship]
                simp only [Option.bind_some]
                rw [if_neg (fun z => absurd ((p_ge (by omega) (by omega)).mp z) (by omega)), if_pos xd, if_pos xm, p_tnI (by omega), cs d (by omega), hj]
                simp only [Option.bind_some]
                rw [p_succ (by omega)]
                exact f1
              · rw [f_X12_until_52.eq_2, if_neg (fun z => absurd ((p_lt (by omega) (by omega)).mp z) (by omega))]
                rw [show (8 : Int32) * Int32.ofNat d + m = Int32.ofNat (8 * d + tn m) from by rw [← p_lin8 (by omega), p_tnb hm.1], if_pos x1, p_tnI (by omega), ms d (by omega), hj]
                simp only [Option.bind_some]
                rw [p_succ (by omega)]
                exact f2
      -- on the first day everybody lives
      have alive : ¬ (trj P 0 0 (V0 I 0)).1 (tn m) ≤ 0 := by
        show ¬ I 90 (tn m) ≤ 0
        have := (m4 (tn m) (by omega)).1.1
        rw [fa_le]
        show ¬ _ ≤ (0 : Int)
        omega
      obtain ⟨v, f1, f2⟩ := both (S - 1) 1 (N - 1) (N - 1) 0 (by omega) (by omega) (by omega)
      have n9 : I1 89 9 = I 89 9 := c2.1 89 9 (by unfold SC; omega)
      have n0 : I1 89 0 = I 89 0 := c2.1 89 0 (by unfold SC; omega)
      have ir1 := m_isRule N ρ1 I1 J1 r (by rw [n9]; omega)
      have im1 := m_isMan N ρ1 I1 J1 m (by rw [n0]; omega)
      rw [n9] at ir1
      rw [n0] at im1
      have F1 : f_X11_until_35 N I1 J1 ρ1 m N 0 0 = some v := by
        rw [show N = (N - 1) + 1 by omega] 
        rw [f_X11_until_35.eq_2]
        rw [show N - 1 + 1 = N by omega, ship]
        simp only [Option.bind_some]
        have z0 := cs 0 (by omega)
        rw [Nat.add_zero] at z0
        rw [if_neg (show ¬ Int32.ofNat S ≤ 0 from fun z => absurd ((p_ge (n := S) (m := 0) (by omega) (by omega)).mp z) (by omega)), if_pos (by decide), if_pos (p_ix hm.1 (by show _ < (8 : Int); omega)), show 50 + tn (0 : Int32) = 50 from rfl, z0]
        rw [if_neg alive]
        exact f1
      have F2 : f_X12_until_52 N X1 J1 ρ1 m (Int32.ofNat (S - 1)) N (-1) 0 = some v := by
        rw [show N = (N - 1) + 1 by omega]
        rw [f_X12_until_52.eq_2]
        rw [show N - 1 + 1 = N by omega]
        have z0 := ms 0 (by omega)
        rw [if_neg (show ¬ Int32.ofNat (S - 1) < 0 from fun z => absurd ((p_lt (n := S - 1) (m := 0) (by omega) (by omega)).mp z) (by omega))]
        rw [show (8 : Int32) * 0 + m = Int32.ofNat (8 * 0 + tn m) from by rw [← p_lin8 (t := 0) (by omega), p_tnb hm.1]; rfl, if_pos (p_ixn (by omega) (by omega)), p_tnI (by omega), z0]
        rw [if_neg alive]
        exact f2
      refine ⟨I1, J1, ρ1, v, X1, ?_, ?_, d2.inv h⟩
      · unfold f_X11_until
        rw [g1]
        simp only [Option.bind_some, ocase_so, c_isMan, m1, p_b01]
        rw [if_neg (by omega), c1]
        simp only [Option.bind_some]
        rw [F1]
        rfl
      · unfold f_X12_until
        rw [ir1]
        simp only [Option.bind_some, p_b01]
        rw [if_neg (by omega), im1]
        simp only [Option.bind_some, p_b01]
        rw [p_tnb hr.1] at d1
        rw [if_neg (by omega), d1]
        simp only [Option.bind_some]
        rw [j4]
        simp only [Option.bind_some]
        rw [F2]
        rfl
    · refine ⟨I, J, ρ, -5, I, ?_, ?_, h⟩
      · unfold f_X11_until
        rw [g1]
        simp only [Option.bind_some, ocase_so, c_isMan, m1, p_b01]
        rw [if_pos hm]
      · unfold f_X12_until
        rw [ir]
        simp only [Option.bind_some, p_b01]
        rw [if_neg (by omega), im]
        simp only [Option.bind_some, p_b01]
        rw [if_pos hm]
  · have g1 := rule_out J N h.2.2.2.2.2.2.1 hr
    refine ⟨I, J, ρ, -5, I, ?_, ?_, h⟩
    · unfold f_X11_until
      rw [g1]
      simp only [Option.bind_some, ocase_no]
    · unfold f_X12_until
      rw [ir]
      simp only [Option.bind_some, p_b01]
      rw [if_pos hr]
