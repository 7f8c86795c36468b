/-! ===== the pure layer: mean, best, rations ===== -/
/-- heaps that agree with I0 but for scratch and the model's ration -/
theorem hx_eq {I0 X : Nat → Nat → Int32} {r b h L : Nat} {ra : Int32} (hF : ∀ a j, ¬ SC a j → ¬ (a = 89 ∧ j = 5) → X a j = I0 a j) (hb : b = 40 ∨ 115 ≤ b) (h5 : X 89 5 = ra) : HX X (I0 b) r h L = HH (tn (I0 89 3)) I0 r b h L ra (fun _ => true) (-1) 0 := by
  funext m
  have F : ∀ a j, (a = 89 ∧ (j = 0 ∨ j = 3 ∨ j = 4 ∨ j = 6)) ∨ (90 ≤ a ∧ a ≤ 96) → X a j = I0 a j := fun a j z => hF a j (by unfold SC; omega) (by omega)
  have e3 : X 89 3 = I0 89 3 := F 89 3 (by omega)
  have eC : chn X = chn I0 := funext fun d => by unfold chn; rw [F 92 d (by omega)]
  have eV : V0 X 0 = V0 I0 0 := V0_cong (fun q j hq => F q j (by omega))
  have eP : PM X (I0 b) r h L (fun _ => true) (-1) = PV I0 r b h L ra (fun _ => true) (-1) := by
    unfold PM PV
    rw [h5, F 89 0 (by omega), F 89 6 (by omega), F 94 r (by omega), F 95 r (by omega), show X 91 = I0 91 from funext fun q => F 91 q (by omega), show X 93 = I0 93 from funext fun q => F 93 q (by omega), show X 96 = I0 96 from funext fun q => F 96 q (by omega)]
  unfold HX HH
  rw [e3, eC, eV, eP]
theorem p12_mul {D : Nat} (h : D ≤ 12) : 10 ^ (12 - D) * 10 ^ D = 1000000000000 := by rw [← Nat.pow_add, show 12 - D + D = 12 by omega]
/-- what a voyage of a rule is worth, class -/
theorem c_worthX {N : Nat} (hN : 200 ≤ N) {ρ0 ρ1 : Rh} {I0 I1 : Nat → Nat → Int32} {J0 J1 : Nat → Nat → Int64} (h0 : Inv ρ0 I0 J0) (hS : SX ρ0 I0 J0 ρ1 I1 J1) {r b h L : Nat} {ra : Int32} (hJ : ∀ m, m < tn (I0 89 0) → J1 78 m = Int64.ofNat (HH 12 I0 r b h L ra (fun _ => true) (-1) 0 m)) (w : Int32) : f_X10_worth N ρ1 I1 J1 w = some (Int64.ofNat (10 ^ (12 - tn (I0 89 3)) * wN w (tn (I0 89 0)) (HH (tn (I0 89 3)) I0 r b h L ra (fun _ => true) (-1) 0))) := by
  have t5 := h0.2.2.1.2.2.2.2.1
  have m1 := h0.2.1.1
  have m2 := h0.2.1.2.1
  unfold bw at t5 m2
  have td := p_tnc (I0 89 3) (by omega)
  have tm := p_tnc (I0 89 0) m2.1
  refine c_worth hN ((hS.1 42 0 (by unfold SC; omega)).trans (m1.trans (p_tnb m2.1).symm)) (by omega) (fun m hm => ?_) (fun m hm => ?_)
  · rw [hJ m hm, HH_up (n := 0) (by omega)]
  · have := HH_le h0 (r := r) (b := b) (h := h) (L := L) (ra := ra) (kb := fun _ => true) (hid := -1) (hides := 0) (m := m) (by omega)
    have := Nat.mul_le_mul_left (10 ^ (12 - tn (I0 89 3))) this
    rw [p12_mul (by omega)] at this
    exact this
theorem op_mean {ρ : Rh} {I : Nat → Nat → Int32} {J : Nat → Nat → Int64} (N : Nat) (h : Inv ρ I J) (hN : 200 ≤ N) (r w p : Int32) : ∃ I1 J1 ρ1 v I2, f_X11_mean N ρ I J r w p = some (I1, J1, ρ1, v) ∧ f_X12_mean N ρ1 I1 J1 r w p = some (I2, v) ∧ Inv ρ1 I2 J1 := by
  have t5 := h.2.2.1.2.2.2.2.1
  have m1 := h.2.1.1
  have m2 := h.2.1.2.1
  have r2 := h.2.2.2.2.2.2.1.2.1
  unfold bw at t5 m2 r2
  have td := p_tnc (I 89 3) (by omega)
  have tm := p_tnc (I 89 0) m2.1
  have ir := m_isRule N ρ I J r (by omega)
  by_cases hr : 0 ≤ r.toInt ∧ r.toInt < (I 89 9).toInt
  · obtain ⟨a, g1, hR⟩ := ruleAt_rx N h hr.1 hr.2
    by_cases hw : 0 ≤ w.toInt ∧ w.toInt ≤ 1
    · by_cases hp : 0 ≤ p.toInt ∧ p.toInt ≤ 1
      · obtain ⟨t, l, b, hh, L, hL⟩ := lx_of h
        obtain ⟨I1, J1, ρ1, c1, c2, c3, c4, c5, c6⟩ := c_sailP hN h (SX.refl ρ I J) hR hL
        have hb9 : b = 40 ∨ 115 ≤ b := by have := hL.2.1.2.2.2.2.2.2.2.2; omega
        have hk := mok_of (c2.inv h) (c2.rule h hR) (c2.law hL)
        have ebf : I1 b = I b := funext fun q => c2.1 b q (by unfold SC; omega)
        rw [ebf] at hk
        obtain ⟨X1, d1, d2, d3⟩ := m_meanG hN (ρ := ρ1) (J := J1) hk w
        have n9 : I1 89 9 = I 89 9 := c2.1 89 9 (by unfold SC; omega)
        have n0 : I1 89 0 = I 89 0 := c2.1 89 0 (by unfold SC; omega)
        have n3 : I1 89 3 = I 89 3 := c2.1 89 3 (by unfold SC; omega)
        have hx := hx_eq (r := tn r) (h := hh) (L := L) (fun a j z _ => c2.1 a j z) hb9 (c2.1 89 5 (by unfold SC; omega))
        rw [hx, n0] at d1
        rw [hx, n3] at d3
        have dS : SX ρ I J ρ1 X1 J1 := c2.trans ⟨fun q j z => d2 q j (by unfold SC at z; unfold MT; omega), fun _ => rfl, fun _ _ _ => rfl, rfl⟩
        have cw := c_worthX hN h c2 c6 w
        obtain ⟨W, hW⟩ : ∃ W, W = wN w (tn (I 89 0)) (HH (tn (I 89 3)) I (tn r) b hh L (I 89 5) (fun _ => true) (-1) 0) := ⟨_, rfl⟩
        rw [← hW] at d1 cw
        have hWle : W ≤ 8 * 10 ^ tn (I 89 3) := by rw [hW]; exact wN_le (by omega) (fun m _ => d3 m)
        have pD := pow12 (n := tn (I 89 3)) (by omega)
        have hbig := Nat.mul_le_mul_left (10 ^ (12 - tn (I 89 3))) hWle
        rw [Nat.mul_left_comm, p12_mul (by omega)] at hbig
        have be := m_below hN (ρ := ρ1) (J := J1) (X := X1) (D := tn (I 89 3)) (by omega) ((dS.1 89 3 (by unfold SC; omega)).trans (p_tnb (by omega)).symm)
        obtain ⟨v, v1, v2⟩ := low_two hN (ρ := ρ1) (ρ' := ρ1) (I := I1) (I' := X1) (J := J1) (J' := J1) (A := Int64.ofNat (10 ^ (12 - tn (I 89 3)) * W)) (B := Int64.ofNat W) (D := tn (I 89 3)) (z := (W : Nat)) (part := p) (by omega) (by rw [q_nL (by omega), Int.natCast_mul]) (q_nL (by omega)) (by rw [Int.natAbs_natCast]; omega) (by
          by_cases q : p.toInt = 0
          · exact Or.inl (p_eq q)
          · exact Or.inr (p_eq (by show _ = (1 : Int); omega)))
        have ir1 := m_isRule N ρ1 I1 J1 r (by rw [n9]; omega)
        rw [n9] at ir1
        refine ⟨I1, J1, ρ1, v, X1, ?_, ?_, dS.inv h⟩
        · unfold f_X11_mean
          rw [g1]
          simp only [Option.bind_some, ocase_so]
          rw [if_neg (by rw [fa_lt]; show ¬ _ < (0 : Int); omega), if_neg (by rw [fa_lt]; show ¬ (1 : Int) < _; omega), c_isPart]
          simp only [Option.bind_some, p_b01]
          rw [if_neg (by omega), c1]
          simp only [Option.bind_some]
          rw [cw]
          simp only [Option.bind_some]
          rw [v1]
          rfl
        · unfold f_X12_mean
          rw [ir1]
          simp only [Option.bind_some, p_b01, m_in]
          rw [if_neg (by omega), if_neg (by show ¬ ¬ ((0 : Int) ≤ _ ∧ _ ≤ (1 : Int)); omega), if_neg (by show ¬ ¬ ((0 : Int) ≤ _ ∧ _ ≤ (1 : Int)); omega)]
          rw [p_tnb hr.1] at d1
          rw [d1]
          simp only [Option.bind_some]
          rw [be]
          simp only [Option.bind_some]
          rw [v2]
          rfl
      · refine ⟨I, J, ρ, -4611686018427387904, I, ?_, ?_, h⟩
        · unfold f_X11_mean
          rw [g1]
          simp only [Option.bind_some, ocase_so]
          rw [if_neg (by rw [fa_lt]; show ¬ _ < (0 : Int); omega), if_neg (by rw [fa_lt]; show ¬ (1 : Int) < _; omega), c_isPart]
          simp only [Option.bind_some, p_b01]
          rw [if_pos hp]
        · unfold f_X12_mean
          rw [ir]
          simp only [Option.bind_some, p_b01, m_in]
          rw [if_neg (by omega), if_neg (by show ¬ ¬ ((0 : Int) ≤ _ ∧ _ ≤ (1 : Int)); omega), if_pos (by show ¬ ((0 : Int) ≤ _ ∧ _ ≤ (1 : Int)); omega)]
    · refine ⟨I, J, ρ, -4611686018427387904, I, ?_, ?_, h⟩
      · unfold f_X11_mean
        rw [g1]
        simp only [Option.bind_some, ocase_so]
        by_cases q : w.toInt < 0
        · rw [if_pos (by rw [fa_lt]; exact q)]
        · rw [if_neg (by rw [fa_lt]; exact q), if_pos (by rw [fa_lt]; show (1 : Int) < _; omega)]
      · unfold f_X12_mean
        rw [ir]
        simp only [Option.bind_some, p_b01, m_in]
        rw [if_neg (by omega), if_pos (by show ¬ ((0 : Int) ≤ _ ∧ _ ≤ (1 : Int)); omega)]
  · have g1 := rule_out J N h.2.2.2.2.2.2.1 hr
    refine ⟨I, J, ρ, -4611686018427387904, I, ?_, ?_, h⟩
    · unfold f_X11_mean
      rw [g1]
      simp only [Option.bind_some, ocase_no]
    · unfold f_X12_mean
      rw [ir]
      simp only [Option.bind_some, p_b01]
      rw [if_pos hr]
/-- the first of the greatest -/
def bst (v : Nat → Nat) : Nat → Option Nat
  | 0 => none
  | k + 1 => match bst v k with
    | none => some k
    | some g => if v k ≤ v g then some g else some k
theorem bst_s {v : Nat → Nat} {k : Nat} : bst v (k + 1) = match bst v k with
    | none => some k
    | some g => if v k ≤ v g then some g else some k := rfl
theorem bst_no {v : Nat → Nat} : ∀ {k : Nat}, bst v k = none → k = 0
  | 0, _ => rfl
  | k + 1, h => by
    rw [bst_s] at h
    cases hb : bst v k with
    | none => rw [hb] at h; cases h
    | some g =>
      rw [hb] at h
      have h' : (if v k ≤ v g then some g else some k) = none := h
      split at h' <;> cases h'
theorem bst_lt {v : Nat → Nat} : ∀ {k g : Nat}, bst v k = some g → g < k
  | 0, g, h => by cases h
  | k + 1, g, h => by
    rw [bst_s] at h
    cases hb : bst v k with
    | none =>
      rw [hb] at h
      have : k = g := Option.some.inj h
      omega
    | some g' =>
      rw [hb] at h
      have h' : (if v k ≤ v g' then some g' else some k) = some g := h
      have := bst_lt hb
      split at h'
      · have : g' = g := Option.some.inj h'
        omega
      · have : k = g := Option.some.inj h'
        omega
def encI (d : Int32) : Option Nat → Int32
  | none => d
  | some g => Int32.ofNat g
def encL (d : Int64) (f : Nat → Nat) : Option Nat → Int64
  | none => d
  | some g => Int64.ofNat (f g)
/-- one step of the class's search -/
theorem best_c {v : Nat → Nat} {c k : Nat} {d : Int32} {α : Type} {x : α} (hc : 0 < c) (hv : ∀ g, g ≤ k → c * v g < 9223372036854775808) : (if Int64.ofNat (c * v k) ≤ encL (-1) (fun g => c * v g) (bst v k) then some (encI d (bst v k), encL (-1) (fun g => c * v g) (bst v k), x) else some (Int32.ofNat k, Int64.ofNat (c * v k), x)) = some (encI d (bst v (k + 1)), encL (-1) (fun g => c * v g) (bst v (k + 1)), x) := by
  rw [bst_s]
  have t1 : (Int64.ofNat (c * v k)).toInt = ((c * v k : Nat) : Int) := q_nL (hv k (Nat.le_refl _))
  cases hb : bst v k with
  | none =>
    have e : (-1 : Int64).toInt = -1 := rfl
    rw [if_neg (by rw [fa_le64, t1]; show ¬ _ ≤ (-1 : Int64).toInt; rw [e]; omega)]
    rfl
  | some g =>
    have hg := bst_lt hb
    have t2 : (Int64.ofNat (c * v g)).toInt = ((c * v g : Nat) : Int) := q_nL (hv g (by omega))
    show (if Int64.ofNat (c * v k) ≤ Int64.ofNat (c * v g) then some (Int32.ofNat g, Int64.ofNat (c * v g), x) else _) = some (encI d (if v k ≤ v g then some g else some k), encL (-1) (fun g => c * v g) (if v k ≤ v g then some g else some k), x)
    by_cases q : v k ≤ v g
    · have := Nat.mul_le_mul_left c q
      rw [if_pos (by rw [fa_le64, t1, t2]; omega), if_pos q]
      rfl
    · have : c * v g < c * v k := Nat.mul_lt_mul_of_pos_left (by omega) hc
      rw [if_neg (by rw [fa_le64, t1, t2]; omega), if_neg q]
      rfl
theorem encL_one {v : Nat → Nat} {k : Nat} (h : ∀ g, g ≤ k → v g < 9223372036854775808) {g : Nat} (hb : bst v k = some g) : (Int64.ofNat (v k) ≤ Int64.ofNat (v g)) ↔ v k ≤ v g := by
  have hg := bst_lt hb
  rw [fa_le64, q_nL (h k (Nat.le_refl _)), q_nL (h g (by omega))]
  omega
