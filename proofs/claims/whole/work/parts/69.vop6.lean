/-! ===== the pure layer: hid, take, takes ===== -/
theorem c_keep {N : Nat} (hN : 200 ≤ N) {ρ0 ρ : Rh} {I0 I : Nat → Nat → Int32} {J0 J : Nat → Nat → Int64} (h0 : Inv ρ0 I0 J0) (hS : SX ρ0 I0 J0 ρ I J) {r a t l b h L : Nat} (hR : RX ρ0 I0 r a) (hL : LX ρ0 I0 t l b h L) : ∃ I1 J1 ρ1, f_X11_keepHomes N ρ I J a = some (I1, J1, ρ1) ∧ SX ρ0 I0 J0 ρ1 I1 J1 ∧ ∀ m, m < tn (I0 89 0) → J1 39 m = Int64.ofNat (HH 12 I0 r b h L (I0 89 5) (fun _ => true) (-1) 0 m) := by
  have m2 := h0.2.1.2.1
  unfold bw at m2
  have tm := p_tnc (I0 89 0) m2.1
  obtain ⟨I1, J1, ρ1, c1, c2, c3, c4, c5, c6⟩ := c_sailP hN h0 hS hR hL
  have e0 : tn (0 : Int32) = 0 := rfl
  have e8 : tn (8 : Int32) = 8 := rfl
  refine ⟨I1, up J1 39 (cpy (J1 78) (J1 39) (tn (0)) (tn (0)) (tn (8))), ρ1, ?_, ⟨c2.1, fun j => by rw [up_ap, if_neg (by omega)]; exact c2.2.1 j, c2.2.2.1, c2.2.2.2⟩, fun m hm => ?_⟩
  · unfold f_X11_keepHomes
    rw [c1]
    rfl
  · rw [up_ap, if_pos rfl, e0, e8]
    simp only [cpy]
    rw [if_pos (by omega), show 0 + (m - 0) = m by omega]
    exact c6 m hm
theorem op_hid {ρ : Rh} {I : Nat → Nat → Int32} {J : Nat → Nat → Int64} (N : Nat) (h : Inv ρ I J) (hN : 200 ≤ N) (r m v p : Int32) : ∃ I1 J1 ρ1 x I2, f_X11_hid N ρ I J r m v p = some (I1, J1, ρ1, x) ∧ f_X12_hid N ρ1 I1 J1 r m v p = some (I2, x) ∧ Inv ρ1 I2 J1 := by
  have t3 := h.2.2.1.2.2.1
  have t5 := h.2.2.1.2.2.2.2.1
  have m1 := h.2.1.1
  have m2 := h.2.1.2.1
  have r2 := h.2.2.2.2.2.2.1.2.1
  unfold bw at t5 m2 r2
  have td := p_tnc (I 89 3) (by omega)
  have tm := p_tnc (I 89 0) m2.1
  have ir := m_isRule N ρ I J r (by omega)
  have im := m_isMan N ρ I J m (by omega)
  by_cases hr : 0 ≤ r.toInt ∧ r.toInt < (I 89 9).toInt
  · obtain ⟨a, g1, hR⟩ := ruleAt_rx N h hr.1 hr.2
    by_cases hm : 0 ≤ m.toInt ∧ m.toInt < (I 89 0).toInt
    · by_cases hv : 0 ≤ v.toInt ∧ v.toInt ≤ 50
      · by_cases hp : 0 ≤ p.toInt ∧ p.toInt ≤ 1
        · obtain ⟨t, l, b, hh, L, hL⟩ := lx_of h
          have tmm := p_tnc m hm.1
          obtain ⟨I1, J1, ρ1, c1, c2, c3⟩ := c_keep hN h (SX.refl ρ I J) hR hL
          obtain ⟨I2, J2, ρ2, e1, e2, e3, e4, e5, e6⟩ := c_sailX hN h c2 hR hL (ra := I 89 5) (set := 255) (hid := m) (hides := v) (kb := fun _ => true) (fun m hm => bit255 (by omega))
          obtain ⟨X1, d1, d2, d3, d4⟩ := m_goesP hN h e2 hR hL
          have ho1 := m_homeX hN h d2 d4 (m := tn m) (by omega)
          have nX0 : X1 89 0 = Int32.ofNat (tn (I 89 0)) := (d2.1 89 0 (by unfold SC; omega)).trans (p_tnb m2.1).symm
          obtain ⟨X2, u1, u2', u3, u4⟩ := m_goesX hN h d2 hR hL (set := ((1 : Int32) <<< (Int32.ofNat (tn (I 89 0)) &&& 31)) - 1) (hid := m) (hides := v) (kb := fun _ => true) (fun m hm => bitall (by omega) hm)
          have ho2 := m_homeX hN h u2' u4 (m := tn m) (by omega)
          have be := m_below hN (ρ := ρ2) (J := J2) (X := X2) (D := tn (I 89 3)) (by omega) ((u2'.1 89 3 (by unfold SC; omega)).trans (p_tnb (by omega)).symm)
          obtain ⟨x, hx⟩ : ∃ x, x = HH (tn (I 89 3)) I (tn r) b hh L (I 89 5) (fun _ => true) (-1) 0 (tn m) := ⟨_, rfl⟩
          obtain ⟨y, hy⟩ : ∃ y, y = HH (tn (I 89 3)) I (tn r) b hh L (I 89 5) (fun _ => true) m v (tn m) := ⟨_, rfl⟩
          rw [← hx] at ho1
          rw [← hy] at ho2
          have hxl : x ≤ 10 ^ tn (I 89 3) := by rw [hx]; exact HH_le h (by omega)
          have hyl : y ≤ 10 ^ tn (I 89 3) := by rw [hy]; exact HH_le h (by omega)
          have pD := pow12 (n := tn (I 89 3)) (by omega)
          have hb1 := Nat.mul_le_mul_left (10 ^ (12 - tn (I 89 3))) hxl
          have hb2 := Nat.mul_le_mul_left (10 ^ (12 - tn (I 89 3))) hyl
          rw [p12_mul (by omega)] at hb1 hb2
          have jb : J2 39 (tn m) = Int64.ofNat (10 ^ (12 - tn (I 89 3)) * x) := by rw [e3 39 _ (by omega), c3 _ (by omega), HH_up (n := 0) (by omega), hx]
          have jh : J2 78 (tn m) = Int64.ofNat (10 ^ (12 - tn (I 89 3)) * y) := by rw [e6 _ (by omega), HH_up (n := 0) (by omega), hy]
          obtain ⟨c, hc⟩ : ∃ c, c = 10 ^ (12 - tn (I 89 3)) := ⟨_, rfl⟩
          rw [← hc] at hb1 hb2 jb jh
          have q1 : (Int64.ofNat (c * x)).toInt = ((c * x : Nat) : Int) := q_nL (by omega)
          have q2 : (Int64.ofNat (c * y)).toInt = ((c * y : Nat) : Int) := q_nL (by omega)
          have q3 : (Int64.ofNat x).toInt = (x : Int) := q_nL (by omega)
          have q4 : (Int64.ofNat y).toInt = (y : Int) := q_nL (by omega)
          have a1 : (J2 78 (tn m) - J2 39 (tn m)).toInt = (10 ^ (12 - tn (I 89 3)) : Nat) * ((y : Int) - (x : Int)) := by
            rw [jh, jb, q_sub (by omega) (by omega), q1, q2, ← hc, Int.mul_sub, Int.natCast_mul, Int.natCast_mul]
          have a2 : (Int64.ofNat y - Int64.ofNat x).toInt = (y : Int) - (x : Int) := by rw [q_sub (by omega) (by omega), q3, q4]
          obtain ⟨z, v1, v2⟩ := low_two hN (ρ := ρ2) (ρ' := ρ2) (I := I2) (I' := X2) (J := J2) (J' := J2) (D := tn (I 89 3)) (part := p) (by omega) a1 a2 (by omega) (by
            by_cases q : p.toInt = 0
            · exact Or.inl (p_eq q)
            · exact Or.inr (p_eq (by show _ = (1 : Int); omega)))
          have n9 : I2 89 9 = I 89 9 := e2.1 89 9 (by unfold SC; omega)
          have n0 : I2 89 0 = I 89 0 := e2.1 89 0 (by unfold SC; omega)
          have ir1 := m_isRule N ρ2 I2 J2 r (by rw [n9]; omega)
          have im1 := m_isMan N ρ2 I2 J2 m (by rw [n0]; omega)
          rw [n9] at ir1
          rw [n0] at im1
          refine ⟨I2, J2, ρ2, z, X2, ?_, ?_, u2'.inv h⟩
          · have xm := p_ix (a := m) (n := 8) hm.1 (by show _ < (8 : Int); omega)
            unfold f_X11_hid
            rw [g1]
            simp only [Option.bind_some, ocase_so, c_isMan, m1, p_b01]
            rw [if_neg (by omega), if_neg (by rw [fa_lt]; show ¬ _ < (0 : Int); omega), if_neg (by rw [fa_lt]; show ¬ (50 : Int) < _; omega), c_isPart]
            simp only [Option.bind_some, p_b01]
            rw [if_neg (by omega), c1]
            simp only [Option.bind_some]
            rw [c2.1 45 2 (by unfold SC; omega), t3, e1]
            simp only [Option.bind_some]
            rw [if_pos xm, if_pos xm, v1]
            rfl
          · unfold f_X12_hid
            rw [ir1]
            simp only [Option.bind_some, p_b01]
            rw [if_neg (by omega), im1]
            simp only [Option.bind_some, p_b01, m_in]
            rw [if_neg (by omega), if_neg (by show ¬ ¬ ((0 : Int) ≤ _ ∧ _ ≤ (50 : Int)); omega), if_neg (by show ¬ ¬ ((0 : Int) ≤ _ ∧ _ ≤ (1 : Int)); omega)]
            rw [p_tnb hr.1] at d1 u1
            rw [p_tnb hm.1] at ho1 ho2
            rw [d1]
            simp only [Option.bind_some]
            rw [ho1]
            simp only [Option.bind_some]
            unfold f_X12_all
            simp only [Option.bind_some]
            rw [nX0, u1]
            simp only [Option.bind_some]
            rw [ho2]
            simp only [Option.bind_some]
            rw [be]
            simp only [Option.bind_some]
            rw [v2]
            rfl
        · refine ⟨I, J, ρ, -4611686018427387904, I, ?_, ?_, h⟩
          · unfold f_X11_hid
            rw [g1]
            simp only [Option.bind_some, ocase_so, c_isMan, m1, p_b01]
            rw [if_neg (by omega), if_neg (by rw [fa_lt]; show ¬ _ < (0 : Int); omega), if_neg (by rw [fa_lt]; show ¬ (50 : Int) < _; omega), c_isPart]
            simp only [Option.bind_some, p_b01]
            rw [if_pos hp]
          · unfold f_X12_hid
            rw [ir]
            simp only [Option.bind_some, p_b01]
            rw [if_neg (by omega), im]
            simp only [Option.bind_some, p_b01, m_in]
            rw [if_neg (by omega), if_neg (by show ¬ ¬ ((0 : Int) ≤ _ ∧ _ ≤ (50 : Int)); omega), if_pos (by show ¬ ((0 : Int) ≤ _ ∧ _ ≤ (1 : Int)); omega)]
      · refine ⟨I, J, ρ, -4611686018427387904, I, ?_, ?_, h⟩
        · unfold f_X11_hid
          rw [g1]
          simp only [Option.bind_some, ocase_so, c_isMan, m1, p_b01]
          rw [if_neg (by omega)]
          by_cases q : v.toInt < 0
          · rw [if_pos (by rw [fa_lt]; exact q)]
          · rw [if_neg (by rw [fa_lt]; exact q), if_pos (by rw [fa_lt]; show (50 : Int) < _; omega)]
        · unfold f_X12_hid
          rw [ir]
          simp only [Option.bind_some, p_b01]
          rw [if_neg (by omega), im]
          simp only [Option.bind_some, p_b01, m_in]
          rw [if_neg (by omega), if_pos (by show ¬ ((0 : Int) ≤ _ ∧ _ ≤ (50 : Int)); omega)]
    · refine ⟨I, J, ρ, -4611686018427387904, I, ?_, ?_, h⟩
      · unfold f_X11_hid
        rw [g1]
        simp only [Option.bind_some, ocase_so, c_isMan, m1, p_b01]
        rw [if_pos hm]
      · unfold f_X12_hid
        rw [ir]
        simp only [Option.bind_some, p_b01]
        rw [if_neg (by omega), im]
        simp only [Option.bind_some, p_b01]
        rw [if_pos hm]
  · have g1 := rule_out J N h.2.2.2.2.2.2.1 hr
    refine ⟨I, J, ρ, -4611686018427387904, I, ?_, ?_, h⟩
    · unfold f_X11_hid
      rw [g1]
      simp only [Option.bind_some, ocase_no]
    · unfold f_X12_hid
      rw [ir]
      simp only [Option.bind_some, p_b01]
      rw [if_pos hr]
def kbs (set : Int32) (m : Nat) : Bool := decide ((((set) >>> (Int32.ofNat m &&& 31)) &&& 1) = 1)
theorem kbs_iff {set : Int32} {m : Nat} : ((((set) >>> (Int32.ofNat m &&& 31)) &&& 1) = 1 ↔ kbs set m = true) := by unfold kbs; exact decide_eq_true_iff.symm
def wtf (set : Int32) (x y : Nat → Nat) : Nat → Nat → Bool
  | 0, _ => true
  | e + 1, k => if (((set) >>> (Int32.ofNat k &&& 31)) &&& 1) = 1 then (if x k < y k then wtf set x y e (k + 1) else false) else wtf set x y e (k + 1)
/-- what the set's men would win: plain HOMES against those with the set alone drinking -/
def wtX (I0 : Nat → Nat → Int32) (r b h L : Nat) (set : Int32) : Bool := wtf set (HH (tn (I0 89 3)) I0 r b h L (I0 89 5) (fun _ => true) (-1) 0) (HH (tn (I0 89 3)) I0 r b h L (I0 89 5) (kbs set) (-1) 0) (tn (I0 89 0)) 0
theorem c_would {N : Nat} (hN : 200 ≤ N) {ρ0 ρ : Rh} {I0 I : Nat → Nat → Int32} {J0 J : Nat → Nat → Int64} (h0 : Inv ρ0 I0 J0) (hS : SX ρ0 I0 J0 ρ I J) {r a t l b h L : Nat} (hR : RX ρ0 I0 r a) (hL : LX ρ0 I0 t l b h L) (hK : ∀ m, m < tn (I0 89 0) → J 39 m = Int64.ofNat (HH 12 I0 r b h L (I0 89 5) (fun _ => true) (-1) 0 m)) (set : Int32) : ∃ I1 J1 ρ1, f_X11_wouldTake N ρ I J a set = some (I1, J1, ρ1, if wtX I0 r b h L set = true then 1 else 0) ∧ SX ρ0 I0 J0 ρ1 I1 J1 ∧ ∀ m, m < tn (I0 89 0) → J1 39 m = Int64.ofNat (HH 12 I0 r b h L (I0 89 5) (fun _ => true) (-1) 0 m) := by
  have t3 := h0.2.2.1.2.2.1
  have t5 := h0.2.2.1.2.2.2.2.1
  have m1 := h0.2.1.1
  have m2 := h0.2.1.2.1
  unfold bw at t5 m2
  have td := p_tnc (I0 89 3) (by omega)
  have tm := p_tnc (I0 89 0) m2.1
  obtain ⟨I1, J1, ρ1, c1, c2, c3, c4, c5, c6⟩ := c_sailX hN h0 hS hR hL (ra := I0 89 5) (set := set) (hid := -1) (hides := 0) (kb := kbs set) (fun m hm => kbs_iff)
  have hn : I1 42 0 = Int32.ofNat (tn (I0 89 0)) := (c2.1 42 0 (by unfold SC; omega)).trans (m1.trans (p_tnb m2.1).symm)
  have hc0 : 0 < 10 ^ (12 - tn (I0 89 3)) := Nat.pow_pos (by decide)
  obtain ⟨x, hx⟩ : ∃ x, x = HH (tn (I0 89 3)) I0 r b h L (I0 89 5) (fun _ => true) (-1) 0 := ⟨_, rfl⟩
  obtain ⟨y, hy⟩ : ∃ y, y = HH (tn (I0 89 3)) I0 r b h L (I0 89 5) (kbs set) (-1) 0 := ⟨_, rfl⟩
  obtain ⟨c, hc⟩ : ∃ c, c = 10 ^ (12 - tn (I0 89 3)) := ⟨_, rfl⟩
  rw [← hc] at hc0
  have jx : ∀ m, m < tn (I0 89 0) → J1 39 m = Int64.ofNat (c * x m) ∧ c * x m ≤ 1000000000000 := by
    intro m hm
    have hle : x m ≤ 10 ^ tn (I0 89 3) := by rw [hx]; exact HH_le h0 (by omega)
    have hb := Nat.mul_le_mul_left c hle
    rw [hc, p12_mul (by omega), ← hc] at hb
    exact ⟨by rw [c3 39 m (by omega), hK m hm, HH_up (n := 0) (by omega), hx, hc], hb⟩
  have jy : ∀ m, m < tn (I0 89 0) → J1 78 m = Int64.ofNat (c * y m) ∧ c * y m ≤ 1000000000000 := by
    intro m hm
    have hle : y m ≤ 10 ^ tn (I0 89 3) := by rw [hy]; exact HH_le h0 (by omega)
    have hb := Nat.mul_le_mul_left c hle
    rw [hc, p12_mul (by omega), ← hc] at hb
    exact ⟨by rw [c6 m hm, HH_up (n := 0) (by omega), hy, hc], hb⟩
  have loop : ∀ (e k fuel : Nat), k + e = tn (I0 89 0) → e < fuel → f_X11_wouldTake_22 N I1 J1 ρ1 set fuel (Int32.ofNat k) = some (if wtf set x y e k = true then Sum.inr () else Sum.inl (I1, J1, ρ1, 0)) := by
    intro e
    induction e with
    | zero =>
      intro k fuel z1 z2
      cases fuel with
      | zero => omega
      | succ fuel =>
        rw [f_X11_wouldTake_22.eq_2, hn, if_pos ((p_ge (by omega) (by omega)).mpr (by omega))]
        rfl
    | succ e ih =>
      intro k fuel z1 z2
      cases fuel with
      | zero => omega
      | succ fuel =>
        have xk := p_ixn (k := k) (n := 8) (by omega) (by omega)
        have hw : wtf set x y (e + 1) k = if (((set) >>> (Int32.ofNat k &&& 31)) &&& 1) = 1 then (if x k < y k then wtf set x y e (k + 1) else false) else wtf set x y e (k + 1) := rfl
        have i := ih (k + 1) fuel (by omega) (by omega)
        rw [f_X11_wouldTake_22.eq_2, hn, if_neg (fun z => absurd ((p_ge (by omega) (by omega)).mp z) (by omega)), p_succ (by omega), p_tnI (by omega)]
        rw [p_tnI (by omega)] at xk
        rw [hw]
        by_cases hb : (((set) >>> (Int32.ofNat k &&& 31)) &&& 1) = 1
        · obtain ⟨e1, e2⟩ := jx k (by omega)
          obtain ⟨e3, e4⟩ := jy k (by omega)
          have s1 : (Int64.ofNat (c * x k)).toInt = ((c * x k : Nat) : Int) := q_nL (by omega)
          have s2 : (Int64.ofNat (c * y k)).toInt = ((c * y k : Nat) : Int) := q_nL (by omega)
          rw [if_pos hb, if_pos hb, if_pos xk, if_pos xk, e1, e3]
          by_cases q : x k < y k
          · have : c * x k < c * y k := Nat.mul_lt_mul_of_pos_left q hc0
            rw [if_pos (by rw [fa_lt64, s1, s2]; omega), if_pos q]
            exact i
          · have : c * y k ≤ c * x k := Nat.mul_le_mul_left _ (by omega)
            rw [if_neg (by rw [fa_lt64, s1, s2]; omega), if_neg q]
            rfl
        · rw [if_neg hb, if_neg hb]
          exact i
  have L1 := loop (tn (I0 89 0)) 0 N (by omega) (by omega)
  rw [show Int32.ofNat 0 = (0 : Int32) from rfl] at L1
  have hW : wtX I0 r b h L set = wtf set x y (tn (I0 89 0)) 0 := by unfold wtX; rw [hx, hy]
  refine ⟨I1, J1, ρ1, ?_, c2, fun m hm => (c3 39 m (by omega)).trans (hK m hm)⟩
  unfold f_X11_wouldTake
  rw [hS.1 45 2 (by unfold SC; omega), t3, c1]
  simp only [Option.bind_some]
  rw [L1, hW]
  by_cases q : wtf set x y (tn (I0 89 0)) 0 = true
  · rw [if_pos q, if_pos q]; rfl
  · rw [if_neg q, if_neg q]; rfl
theorem m_keep {N : Nat} (hN : 200 ≤ N) {ρ0 ρ : Rh} {I0 X : Nat → Nat → Int32} {J0 J : Nat → Nat → Int64} (h0 : Inv ρ0 I0 J0) (hS : SX ρ0 I0 J0 ρ X J) {r a t l b h L : Nat} (hR : RX ρ0 I0 r a) (hL : LX ρ0 I0 t l b h L) : ∃ X1 J1, f_X12_keeps N ρ X J (Int32.ofNat r) = some (X1, J1) ∧ SX ρ0 I0 J0 ρ X1 J1 ∧ ∀ m, m < tn (I0 89 0) → J1 114 m = Int64.ofNat (HH (tn (I0 89 3)) I0 r b h L (I0 89 5) (fun _ => true) (-1) 0 m) := by
  have m2 := h0.2.1.2.1
  unfold bw at m2
  have tm := p_tnc (I0 89 0) m2.1
  obtain ⟨X1, d1, d2, d3, d4⟩ := m_goesP hN h0 hS hR hL
  have hn : X1 89 0 = Int32.ofNat (tn (I0 89 0)) := (d2.1 89 0 (by unfold SC; omega)).trans (p_tnb m2.1).symm
  have loop : ∀ (e k fuel : Nat) (J' : Nat → Nat → Int64), k + e = tn (I0 89 0) → e < fuel → (∀ j, J' 110 j = J0 110 j) → ∃ J1, f_X12_keeps_7 N X1 ρ fuel J' (Int32.ofNat k) = some J1 ∧ (∀ q j, ¬ (q = 114 ∧ k ≤ j) → J1 q j = J' q j) ∧ ∀ m, k ≤ m → m < tn (I0 89 0) → J1 114 m = Int64.ofNat (HH (tn (I0 89 3)) I0 r b h L (I0 89 5) (fun _ => true) (-1) 0 m) := by
    intro e
    induction e with
    | zero =>
      intro k fuel J' z1 z2 z3
      cases fuel with
      | zero => omega
      | succ fuel =>
        refine ⟨J', ?_, fun _ _ _ => rfl, fun m h1 h2 => absurd h1 (by omega)⟩
        rw [f_X12_keeps_7.eq_2, hn, if_pos ((p_ge (by omega) (by omega)).mpr (by omega))]
    | succ e ih =>
      intro k fuel J' z1 z2 z3
      cases fuel with
      | zero => omega
      | succ fuel =>
        have hSX : SX ρ0 I0 J0 ρ X1 J' := ⟨d2.1, z3, d2.2.2.1, d2.2.2.2⟩
        have hh := m_homeX hN h0 hSX d4 (m := k) (by omega)
        obtain ⟨J1, g1, g2, g3⟩ := ih (k + 1) fuel (u2 J' 114 k (Int64.ofNat (HH (tn (I0 89 3)) I0 r b h L (I0 89 5) (fun _ => true) (-1) 0 k))) (by omega) (by omega) (fun j => (u2_fr (by omega)).trans (z3 j))
        refine ⟨J1, ?_, fun q j z => (g2 q j (by omega)).trans (u2_fr (by omega)), fun m h1 h2 => ?_⟩
        · rw [f_X12_keeps_7.eq_2, hn, if_neg (fun z => absurd ((p_ge (by omega) (by omega)).mp z) (by omega)), hh]
          simp only [Option.bind_some]
          rw [if_pos (p_ixn (by omega) (by omega)), p_tnI (by omega), p_succ (by omega)]
          exact g1
        · by_cases hm : m = k
          · subst hm
            rw [g2 114 m (by omega), u2_at]
          · exact g3 m (by omega) h2
  obtain ⟨J1, g1, g2, g3⟩ := loop (tn (I0 89 0)) 0 N J (by omega) (by omega) hS.2.1
  refine ⟨X1, J1, ?_, ⟨d2.1, fun j => (g2 110 j (by omega)).trans (hS.2.1 j), d2.2.2.1, d2.2.2.2⟩, fun m hm => g3 m (Nat.zero_le _) hm⟩
  unfold f_X12_keeps
  rw [d1]
  simp only [Option.bind_some]
  rw [show Int32.ofNat 0 = (0 : Int32) from rfl] at g1
  rw [g1]
  rfl
theorem m_would {N : Nat} (hN : 200 ≤ N) {ρ0 ρ : Rh} {I0 X : Nat → Nat → Int32} {J0 J : Nat → Nat → Int64} (h0 : Inv ρ0 I0 J0) (hS : SX ρ0 I0 J0 ρ X J) {r a t l b h L : Nat} (hR : RX ρ0 I0 r a) (hL : LX ρ0 I0 t l b h L) (hK : ∀ m, m < tn (I0 89 0) → J 114 m = Int64.ofNat (HH (tn (I0 89 3)) I0 r b h L (I0 89 5) (fun _ => true) (-1) 0 m)) (set : Int32) : ∃ X1, f_X12_would N ρ X J (Int32.ofNat r) set = some (X1, if wtX I0 r b h L set = true then 1 else 0) ∧ SX ρ0 I0 J0 ρ X1 J := by
  have t5 := h0.2.2.1.2.2.2.2.1
  have m2 := h0.2.1.2.1
  unfold bw at t5 m2
  have td := p_tnc (I0 89 3) (by omega)
  have tm := p_tnc (I0 89 0) m2.1
  obtain ⟨X1, d1, d2, d3, d4⟩ := m_goesX hN h0 hS hR hL (set := set) (hid := -1) (hides := 0) (kb := kbs set) (fun m hm => kbs_iff)
  have hn : X1 89 0 = Int32.ofNat (tn (I0 89 0)) := (d2.1 89 0 (by unfold SC; omega)).trans (p_tnb m2.1).symm
  have pD := pow12 (n := tn (I0 89 3)) (by omega)
  obtain ⟨x, hx⟩ : ∃ x, x = HH (tn (I0 89 3)) I0 r b h L (I0 89 5) (fun _ => true) (-1) 0 := ⟨_, rfl⟩
  obtain ⟨y, hy⟩ : ∃ y, y = HH (tn (I0 89 3)) I0 r b h L (I0 89 5) (kbs set) (-1) 0 := ⟨_, rfl⟩
  have xl : ∀ m, x m ≤ 10 ^ tn (I0 89 3) := fun m => by rw [hx]; exact HH_le h0 (by omega)
  have yl : ∀ m, y m ≤ 10 ^ tn (I0 89 3) := fun m => by rw [hy]; exact HH_le h0 (by omega)
  have loop : ∀ (e k fuel : Nat), k + e = tn (I0 89 0) → e < fuel → f_X12_would_10 N X1 J ρ set fuel (Int32.ofNat k) = some (if wtf set x y e k = true then Sum.inr () else Sum.inl (X1, 0)) := by
    intro e
    induction e with
    | zero =>
      intro k fuel z1 z2
      cases fuel with
      | zero => omega
      | succ fuel =>
        rw [f_X12_would_10.eq_2, hn, if_pos ((p_ge (by omega) (by omega)).mpr (by omega))]
        rfl
    | succ e ih =>
      intro k fuel z1 z2
      cases fuel with
      | zero => omega
      | succ fuel =>
        have xk := p_ixn (k := k) (n := 8) (by omega) (by omega)
        have hw : wtf set x y (e + 1) k = if (((set) >>> (Int32.ofNat k &&& 31)) &&& 1) = 1 then (if x k < y k then wtf set x y e (k + 1) else false) else wtf set x y e (k + 1) := rfl
        have i := ih (k + 1) fuel (by omega) (by omega)
        have hh := m_homeX hN h0 d2 d4 (m := k) (by omega)
        rw [← hy] at hh
        rw [f_X12_would_10.eq_2, hn, if_neg (fun z => absurd ((p_ge (by omega) (by omega)).mp z) (by omega)), p_succ (by omega), p_tnI (by omega), hh]
        rw [p_tnI (by omega)] at xk
        rw [hw]
        by_cases hb : (((set) >>> (Int32.ofNat k &&& 31)) &&& 1) = 1
        · have a1 := xl k
          have a2 := yl k
          have s1 : (Int64.ofNat (x k)).toInt = ((x k : Nat) : Int) := q_nL (by omega)
          have s2 : (Int64.ofNat (y k)).toInt = ((y k : Nat) : Int) := q_nL (by omega)
          rw [if_pos hb, if_pos hb]
          simp only [Option.bind_some]
          rw [if_pos xk, hK k (by omega), ← hx]
          by_cases q : x k < y k
          · rw [if_pos (by rw [fa_lt64, s1, s2]; omega), if_pos q]
            exact i
          · rw [if_neg (by rw [fa_lt64, s1, s2]; omega), if_neg q]
            rfl
        · rw [if_neg hb, if_neg hb]
          exact i
  have L1 := loop (tn (I0 89 0)) 0 N (by omega) (by omega)
  rw [show Int32.ofNat 0 = (0 : Int32) from rfl] at L1
  have hW : wtX I0 r b h L set = wtf set x y (tn (I0 89 0)) 0 := by unfold wtX; rw [hx, hy]
  refine ⟨X1, ?_, d2⟩
  unfold f_X12_would
  rw [d1]
  simp only [Option.bind_some]
  rw [L1, hW]
  by_cases q : wtf set x y (tn (I0 89 0)) 0 = true
  · rw [if_pos q, if_pos q]; rfl
  · rw [if_neg q, if_neg q]; rfl
