/-! ===== the pure layer: best, rations ===== -/
theorem rx_at {ρ : Rh} {I : Nat → Nat → Int32} {J : Nat → Nat → Int64} (N : Nat) {r a : Nat} (h : RX ρ I r a) : f_X11_ruleAt N ρ I J (Int32.ofNat r) = some (some a) := by
  obtain ⟨r1, r2, r3, r4⟩ := h
  unfold f_X11_ruleAt
  rw [if_neg (by rw [fa_lt, p_nI (by omega)]; show ¬ _ < (0 : Int); omega), if_neg (by rw [fa_le, p_nI (by omega)]; show ¬ (8 : Int) ≤ _; omega), if_pos (p_ixn (by omega) (by omega)), p_tnI (by omega), r3]
  rfl
def vB (I0 : Nat → Nat → Int32) (b h L : Nat) (w : Int32) (r : Nat) : Nat := wN w (tn (I0 89 0)) (HH (tn (I0 89 3)) I0 r b h L (I0 89 5) (fun _ => true) (-1) 0)
theorem wHH_le {ρ0 : Rh} {I0 : Nat → Nat → Int32} {J0 : Nat → Nat → Int64} (h0 : Inv ρ0 I0 J0) {r b h L : Nat} {ra : Int32} {w : Int32} : wN w (tn (I0 89 0)) (HH (tn (I0 89 3)) I0 r b h L ra (fun _ => true) (-1) 0) ≤ 8 * 10 ^ tn (I0 89 3) ∧ 10 ^ (12 - tn (I0 89 3)) * wN w (tn (I0 89 0)) (HH (tn (I0 89 3)) I0 r b h L ra (fun _ => true) (-1) 0) ≤ 8 * 1000000000000 ∧ 0 < 10 ^ (12 - tn (I0 89 3)) ∧ 10 ^ tn (I0 89 3) ≤ 1000000000000 := by
  have t5 := h0.2.2.1.2.2.2.2.1
  have m2 := h0.2.1.2.1
  unfold bw at t5 m2
  have td := p_tnc (I0 89 3) (by omega)
  have tm := p_tnc (I0 89 0) m2.1
  have h1 : wN w (tn (I0 89 0)) (HH (tn (I0 89 3)) I0 r b h L ra (fun _ => true) (-1) 0) ≤ 8 * 10 ^ tn (I0 89 3) := wN_le (by omega) (fun m _ => HH_le h0 (by omega))
  have h2 := Nat.mul_le_mul_left (10 ^ (12 - tn (I0 89 3))) h1
  rw [Nat.mul_left_comm, p12_mul (by omega)] at h2
  exact ⟨h1, h2, Nat.pow_pos (by decide), pow12 (by omega)⟩
theorem c_best {N : Nat} (hN : 200 ≤ N) {ρ0 : Rh} {I0 : Nat → Nat → Int32} {J0 : Nat → Nat → Int64} (h0 : Inv ρ0 I0 J0) {t l b h L : Nat} (hL : LX ρ0 I0 t l b h L) (w : Int32) : ∀ (e k fuel : Nat) (ρ : Rh) (I : Nat → Nat → Int32) (J : Nat → Nat → Int64), k + e = tn (I0 89 9) → e < fuel → SX ρ0 I0 J0 ρ I J → ∃ I1 J1 ρ1, f_X11_best_21 N w fuel I J ρ (encI (-1) (bst (vB I0 b h L w) k)) (encL (-1) (fun g => 10 ^ (12 - tn (I0 89 3)) * vB I0 b h L w g) (bst (vB I0 b h L w) k)) (Int32.ofNat k) = some (I1, J1, ρ1, encI (-1) (bst (vB I0 b h L w) (tn (I0 89 9)))) ∧ SX ρ0 I0 J0 ρ1 I1 J1
  | 0, k, fuel + 1, ρ, I, J, z1, z2, hS => by
    have r1 := h0.2.2.2.2.2.2.1.1
    have r2 := h0.2.2.2.2.2.2.1.2.1
    unfold bw at r2
    have tr := p_tnc (I0 89 9) r2.1
    refine ⟨I, J, ρ, ?_, hS⟩
    rw [f_X11_best_21.eq_2, hS.1 32 3 (by unfold SC; omega), r1, show I0 89 9 = Int32.ofNat (tn (I0 89 9)) from (p_tnb r2.1).symm, if_pos ((p_ge (by omega) (by omega)).mpr (by omega)), p_tnI (by omega), show k = tn (I0 89 9) by omega]
  | e + 1, k, fuel + 1, ρ, I, J, z1, z2, hS => by
    have r1 := h0.2.2.2.2.2.2.1.1
    have r2 := h0.2.2.2.2.2.2.1.2.1
    unfold bw at r2
    have tr := p_tnc (I0 89 9) r2.1
    obtain ⟨a, hR⟩ := rx_of h0 (r := k) (by omega)
    obtain ⟨I1, J1, ρ1, c1, c2, c3, c4, c5, c6⟩ := c_sailP hN h0 hS hR hL
    have cw := c_worthX hN h0 c2 c6 w
    obtain ⟨I2, J2, ρ2, f1, f2⟩ := c_best hN h0 hL w e (k + 1) fuel ρ1 I1 J1 (by omega) (by omega) c2
    refine ⟨I2, J2, ρ2, ?_, f2⟩
    have hb := best_c (v := vB I0 b h L w) (c := 10 ^ (12 - tn (I0 89 3))) (k := k) (d := -1) (x := (I1, J1, ρ1)) (wHH_le h0 (r := 0) (b := b) (h := h) (L := L) (ra := 0) (w := 0)).2.2.1 (fun g _ => by have := (wHH_le h0 (r := g) (b := b) (h := h) (L := L) (ra := I0 89 5) (w := w)).2.1; unfold vB; omega)
    rw [f_X11_best_21.eq_2, hS.1 32 3 (by unfold SC; omega), r1]
    rw [if_neg (by rw [show I0 89 9 = Int32.ofNat (tn (I0 89 9)) from (p_tnb r2.1).symm]; exact fun z => absurd ((p_ge (by omega) (by omega)).mp z) (by omega)), rx_at N (hS.rule h0 hR)]
    simp only [Option.bind_some, ocase_so]
    rw [c1]
    simp only [Option.bind_some]
    rw [cw]
    simp only [Option.bind_some]
    rw [show wN w (tn (I0 89 0)) (HH (tn (I0 89 3)) I0 k b h L (I0 89 5) (fun _ => true) (-1) 0) = vB I0 b h L w k from rfl, hb]
    simp only [Option.bind_some]
    rw [p_succ (by omega)]
    exact f1
theorem m_best {N : Nat} (hN : 200 ≤ N) {ρ0 ρ : Rh} {I0 : Nat → Nat → Int32} {J0 J : Nat → Nat → Int64} (h0 : Inv ρ0 I0 J0) {t l b h L : Nat} (hL : LX ρ0 I0 t l b h L) (w : Int32) : ∀ (e k fuel : Nat) (X : Nat → Nat → Int32), k + e = tn (I0 89 9) → e < fuel → SX ρ0 I0 J0 ρ X J → ∃ X1, f_X12_best_19 N J ρ w fuel X (encI (-1) (bst (vB I0 b h L w) k)) (encL 0 (vB I0 b h L w) (bst (vB I0 b h L w) k)) (Int32.ofNat k) = some (X1, encI (-1) (bst (vB I0 b h L w) (tn (I0 89 9)))) ∧ SX ρ0 I0 J0 ρ X1 J
  | 0, k, fuel + 1, X, z1, z2, hS => by
    have r2 := h0.2.2.2.2.2.2.1.2.1
    unfold bw at r2
    have tr := p_tnc (I0 89 9) r2.1
    refine ⟨X, ?_, hS⟩
    rw [f_X12_best_19.eq_2, hS.1 89 9 (by unfold SC; omega), show I0 89 9 = Int32.ofNat (tn (I0 89 9)) from (p_tnb r2.1).symm, if_pos ((p_ge (by omega) (by omega)).mpr (by omega)), p_tnI (by omega), show k = tn (I0 89 9) by omega]
  | e + 1, k, fuel + 1, X, z1, z2, hS => by
    have r2 := h0.2.2.2.2.2.2.1.2.1
    unfold bw at r2
    have tr := p_tnc (I0 89 9) r2.1
    obtain ⟨a, hR⟩ := rx_of h0 (r := k) (by omega)
    have hb9 : b = 40 ∨ 115 ≤ b := by have := hL.2.1.2.2.2.2.2.2.2.2; omega
    have hk := mok_of (hS.inv h0) (hS.rule h0 hR) (hS.law hL)
    rw [show X b = I0 b from funext fun q => hS.1 b q (by unfold SC; omega)] at hk
    obtain ⟨X1, d1, d2, d3⟩ := m_meanG hN (ρ := ρ) (J := J) hk w
    rw [hx_eq (r := k) (h := h) (L := L) (fun a j z _ => hS.1 a j z) hb9 (hS.1 89 5 (by unfold SC; omega)), hS.1 89 0 (by unfold SC; omega)] at d1
    have dS : SX ρ0 I0 J0 ρ X1 J := hS.trans ⟨fun q j z => d2 q j (by unfold SC at z; unfold MT; omega), fun _ => rfl, fun _ _ _ => rfl, rfl⟩
    obtain ⟨X2, f1, f2⟩ := m_best hN h0 hL w e (k + 1) fuel X1 (by omega) (by omega) dS
    refine ⟨X2, ?_, f2⟩
    have hb : (if (encI (-1) (bst (vB I0 b h L w) k) = (-1)) then some (Int32.ofNat k, Int64.ofNat (vB I0 b h L w k)) else (if (Int64.ofNat (vB I0 b h L w k) ≤ encL 0 (vB I0 b h L w) (bst (vB I0 b h L w) k)) then some (encI (-1) (bst (vB I0 b h L w) k), encL 0 (vB I0 b h L w) (bst (vB I0 b h L w) k)) else some (Int32.ofNat k, Int64.ofNat (vB I0 b h L w k)))) = some (encI (-1) (bst (vB I0 b h L w) (k + 1)), encL 0 (vB I0 b h L w) (bst (vB I0 b h L w) (k + 1))) := by
      rw [bst_s]
      cases hbb : bst (vB I0 b h L w) k with
      | none => exact if_pos (show encI (-1) none = -1 from rfl)
      | some g =>
        have hg := bst_lt hbb
        have le := encL_one (v := vB I0 b h L w) (k := k) (fun g _ => by have := wHH_le h0 (r := g) (b := b) (h := h) (L := L) (ra := I0 89 5) (w := w); unfold vB; omega) hbb
        rw [if_neg (show ¬ encI (-1) (some g) = -1 from neg1_ne (by omega))]
        show (if Int64.ofNat (vB I0 b h L w k) ≤ Int64.ofNat (vB I0 b h L w g) then some (Int32.ofNat g, Int64.ofNat (vB I0 b h L w g)) else _) = some (encI (-1) (if vB I0 b h L w k ≤ vB I0 b h L w g then some g else some k), encL 0 (vB I0 b h L w) (if vB I0 b h L w k ≤ vB I0 b h L w g then some g else some k))
        by_cases q : vB I0 b h L w k ≤ vB I0 b h L w g
        · rw [if_pos (le.mpr q), if_pos q]; rfl
        · rw [if_neg (fun z => q (le.mp z)), if_neg q]; rfl
    rw [f_X12_best_19.eq_2, hS.1 89 9 (by unfold SC; omega)]
    rw [if_neg (by rw [show I0 89 9 = Int32.ofNat (tn (I0 89 9)) from (p_tnb r2.1).symm]; exact fun z => absurd ((p_ge (by omega) (by omega)).mp z) (by omega)), d1]
    simp only [Option.bind_some]
    rw [show wN w (tn (I0 89 0)) (HH (tn (I0 89 3)) I0 k b h L (I0 89 5) (fun _ => true) (-1) 0) = vB I0 b h L w k from rfl, hb]
    simp only [Option.bind_some]
    rw [p_succ (by omega)]
    exact f1
theorem op_best {ρ : Rh} {I : Nat → Nat → Int32} {J : Nat → Nat → Int64} (N : Nat) (h : Inv ρ I J) (hN : 200 ≤ N) (w : Int32) : ∃ I1 J1 ρ1 v I2, f_X11_best N ρ I J w = some (I1, J1, ρ1, v) ∧ f_X12_best N ρ1 I1 J1 w = some (I2, v) ∧ Inv ρ1 I2 J1 := by
  have r2 := h.2.2.2.2.2.2.1.2.1
  unfold bw at r2
  have tr := p_tnc (I 89 9) r2.1
  by_cases hw : 0 ≤ w.toInt ∧ w.toInt ≤ 1
  · obtain ⟨t, l, b, hh, L, hL⟩ := lx_of h
    obtain ⟨I1, J1, ρ1, c1, c2⟩ := c_best hN h hL w (tn (I 89 9)) 0 N ρ I J (by omega) (by omega) (SX.refl ρ I J)
    obtain ⟨X1, d1, d2⟩ := m_best hN h hL w (tn (I 89 9)) 0 N I1 (by omega) (by omega) c2
    refine ⟨I1, J1, ρ1, encI (-1) (bst (vB I b hh L w) (tn (I 89 9))), X1, ?_, ?_, d2.inv h⟩
    · unfold f_X11_best
      rw [if_neg (by rw [fa_lt]; show ¬ _ < (0 : Int); omega), if_pos (by rw [fa_le]; show _ ≤ (1 : Int); omega)]
      rw [show (bst (vB I b hh L w) 0) = none from rfl, show Int32.ofNat 0 = (0 : Int32) from rfl] at c1
      rw [show encI (-1) none = (-1 : Int32) from rfl, show encL (-1) (fun g => 10 ^ (12 - tn (I 89 3)) * vB I b hh L w g) none = (-1 : Int64) from rfl] at c1
      rw [c1]
      rfl
    · unfold f_X12_best
      simp only [Option.bind_some, p_b01, m_in]
      rw [if_neg (by show ¬ ¬ ((0 : Int) ≤ _ ∧ _ ≤ (1 : Int)); omega)]
      rw [show (bst (vB I b hh L w) 0) = none from rfl, show Int32.ofNat 0 = (0 : Int32) from rfl] at d1
      rw [show encI (-1) none = (-1 : Int32) from rfl, show encL 0 (vB I b hh L w) none = (0 : Int64) from rfl] at d1
      rw [d1]
      rfl
  · refine ⟨I, J, ρ, -2, I, ?_, ?_, h⟩
    · unfold f_X11_best
      by_cases q : w.toInt < 0
      · rw [if_pos (by rw [fa_lt]; exact q)]
      · rw [if_neg (by rw [fa_lt]; exact q), if_neg (by rw [fa_le]; show ¬ _ ≤ (1 : Int); omega)]
    · unfold f_X12_best
      simp only [Option.bind_some, p_b01, m_in]
      rw [if_pos (by show ¬ ((0 : Int) ≤ _ ∧ _ ≤ (1 : Int)); omega)]
def vRa (I0 : Nat → Nat → Int32) (r b h L : Nat) (k : Nat) : Nat := wN 0 (tn (I0 89 0)) (HH (tn (I0 89 3)) I0 r b h L (Int32.ofNat k) (fun _ => true) (-1) 0)
theorem c_rations {N : Nat} (hN : 200 ≤ N) {ρ0 : Rh} {I0 : Nat → Nat → Int32} {J0 : Nat → Nat → Int64} (h0 : Inv ρ0 I0 J0) {r a t l b h L : Nat} (hR : RX ρ0 I0 r a) (hL : LX ρ0 I0 t l b h L) : ∀ (e k fuel : Nat) (ρ : Rh) (I : Nat → Nat → Int32) (J : Nat → Nat → Int64), k + e = 100 → e < fuel → SX ρ0 I0 J0 ρ I J → ∃ I1 J1 ρ1, f_X11_rations_23 N a fuel I J ρ (encI 0 (bst (vRa I0 r b h L) k)) (encL (-1) (fun g => 10 ^ (12 - tn (I0 89 3)) * vRa I0 r b h L g) (bst (vRa I0 r b h L) k)) (Int32.ofNat k) = some (I1, J1, ρ1, encI 0 (bst (vRa I0 r b h L) 100)) ∧ SX ρ0 I0 J0 ρ1 I1 J1
  | 0, k, fuel + 1, ρ, I, J, z1, z2, hS => by
    refine ⟨I, J, ρ, ?_, hS⟩
    rw [f_X11_rations_23.eq_2, if_pos (by rw [fa_lt, p_nI (by omega)]; show (99 : Int) < _; omega), show k = 100 by omega]
  | e + 1, k, fuel + 1, ρ, I, J, z1, z2, hS => by
    have m2 := h0.2.1.2.1
    unfold bw at m2
    have tm := p_tnc (I0 89 0) m2.1
    obtain ⟨I1, J1, ρ1, c1, c2, c3, c4, c5, c6⟩ := c_sailX hN h0 hS hR hL (ra := Int32.ofNat k) (set := 255) (hid := -1) (hides := 0) (kb := fun _ => true) (fun m hm => bit255 (by omega))
    have cw := c_worthX hN h0 c2 c6 0
    obtain ⟨I2, J2, ρ2, f1, f2⟩ := c_rations hN h0 hR hL e (k + 1) fuel ρ1 I1 J1 (by omega) (by omega) c2
    refine ⟨I2, J2, ρ2, ?_, f2⟩
    have hb := best_c (v := vRa I0 r b h L) (c := 10 ^ (12 - tn (I0 89 3))) (k := k) (d := 0) (x := ()) (wHH_le h0 (r := 0) (b := b) (h := h) (L := L) (ra := 0) (w := 0)).2.2.1 (fun g _ => by have := (wHH_le h0 (r := r) (b := b) (h := h) (L := L) (ra := Int32.ofNat g) (w := 0)).2.1; unfold vRa; omega)
    have hb' : (if Int64.ofNat (10 ^ (12 - tn (I0 89 3)) * vRa I0 r b h L k) ≤ encL (-1) (fun g => 10 ^ (12 - tn (I0 89 3)) * vRa I0 r b h L g) (bst (vRa I0 r b h L) k) then some (encI 0 (bst (vRa I0 r b h L) k), encL (-1) (fun g => 10 ^ (12 - tn (I0 89 3)) * vRa I0 r b h L g) (bst (vRa I0 r b h L) k)) else some (Int32.ofNat k, Int64.ofNat (10 ^ (12 - tn (I0 89 3)) * vRa I0 r b h L k))) = some (encI 0 (bst (vRa I0 r b h L) (k + 1)), encL (-1) (fun g => 10 ^ (12 - tn (I0 89 3)) * vRa I0 r b h L g) (bst (vRa I0 r b h L) (k + 1))) := by
      by_cases q : Int64.ofNat (10 ^ (12 - tn (I0 89 3)) * vRa I0 r b h L k) ≤ encL (-1) (fun g => 10 ^ (12 - tn (I0 89 3)) * vRa I0 r b h L g) (bst (vRa I0 r b h L) k)
      · rw [if_pos q] at hb ⊢
        have := Option.some.inj hb
        exact congrArg some (Prod.ext (congrArg (fun z => z.1) this) (congrArg (fun z => z.2.1) this))
      · rw [if_neg q] at hb ⊢
        have := Option.some.inj hb
        exact congrArg some (Prod.ext (congrArg (fun z => z.1) this) (congrArg (fun z => z.2.1) this))
    rw [f_X11_rations_23.eq_2, if_neg (by rw [fa_lt, p_nI (by omega)]; show ¬ (99 : Int) < _; omega), c1]
    simp only [Option.bind_some]
    rw [cw]
    simp only [Option.bind_some]
    rw [show wN 0 (tn (I0 89 0)) (HH (tn (I0 89 3)) I0 r b h L (Int32.ofNat k) (fun _ => true) (-1) 0) = vRa I0 r b h L k from rfl, hb']
    simp only [Option.bind_some]
    rw [p_succ (by omega)]
    exact f1
def SX5 (I0 X : Nat → Nat → Int32) : Prop := ∀ q j, ¬ SC q j → ¬ (q = 89 ∧ j = 5) → X q j = I0 q j
theorem m_rations {N : Nat} (hN : 200 ≤ N) {ρ0 ρ : Rh} {I0 : Nat → Nat → Int32} {J0 J : Nat → Nat → Int64} (h0 : Inv ρ0 I0 J0) {r a t l b h L : Nat} (hR : RX ρ0 I0 r a) (hL : LX ρ0 I0 t l b h L) {c3 : Int32} : ∀ (e k fuel : Nat) (X : Nat → Nat → Int32), k + e = 100 → e < fuel → SX5 I0 X → ∃ X1, f_X12_rations_24 N J ρ (Int32.ofNat r) c3 fuel X (encI 0 (bst (vRa I0 r b h L) k)) (encL 0 (vRa I0 r b h L) (bst (vRa I0 r b h L) k)) (Int32.ofNat k) = some (X1, encI 0 (bst (vRa I0 r b h L) 100)) ∧ SX5 I0 X1
  | 0, k, fuel + 1, X, z1, z2, hS => by
    refine ⟨X, ?_, hS⟩
    rw [f_X12_rations_24.eq_2, if_pos (by rw [fa_le, p_nI (by omega)]; show (100 : Int) ≤ _; omega), show k = 100 by omega]
  | e + 1, k, fuel + 1, X, z1, z2, hS => by
    have hb9 : b = 40 ∨ 115 ≤ b := by have := hL.2.1.2.2.2.2.2.2.2.2; omega
    have hk0 := mok_of h0 hR hL
    have F : ∀ q j, ¬ SC q j → ¬ (q = 89 ∧ j = 5) → (u2 X 89 5 (Int32.ofNat k)) q j = I0 q j := fun q j y1 y2 => (u2_fr (by omega)).trans (hS q j y1 y2)
    have hk : mOk (u2 X 89 5 (Int32.ofNat k)) (I0 b) r t h L := by
      obtain ⟨k0, k3, k4, k5, k6, k7, k8, k9, k10, k11, k12, k13, k14, k15, k16, k17, k18, k19⟩ := hk0
      refine ⟨?_, ?_, ?_, ?_, fun q hq => ?_, k7, ?_, fun m hm => ?_, k10, ?_, ?_, ?_, ?_, k15, k16, fun q hq => ?_, k18, k19⟩
      · rw [F 89 0 (by unfold SC; omega) (by omega)]; exact k0
      · rw [F 89 3 (by unfold SC; omega) (by omega)]; exact k3
      · rw [F 89 4 (by unfold SC; omega) (by omega)]; exact k4
      · rw [u2_at]; unfold bw; rw [p_nI (by omega)]; omega
      · rw [F 92 q (by unfold SC; omega) (by omega), F 93 q (by unfold SC; omega) (by omega)]; exact k6 q hq
      · rw [F 94 r (by unfold SC; omega) (by omega)]; exact k8
      · rw [F 96 _ (by unfold SC; omega) (by omega)]; exact k9 m hm
      · rw [F 89 18 (by unfold SC; omega) (by omega)]; exact k11
      · rw [F 99 _ (by unfold SC; omega) (by omega)]; exact k12
      · rw [F 99 _ (by unfold SC; omega) (by omega)]; exact k13
      · rw [F 99 _ (by unfold SC; omega) (by omega)]; exact k14
      · rw [F 98 _ (by unfold SC; omega) (by omega)]; exact k17 q hq
    obtain ⟨X1, d1, d2, d3⟩ := m_meanG hN (ρ := ρ) (J := J) hk 0
    rw [hx_eq (r := r) (h := h) (L := L) F hb9 u2_at, F 89 0 (by unfold SC; omega) (by omega)] at d1
    have dS : SX5 I0 X1 := fun q j y1 y2 => (d2 q j (by unfold SC at y1; unfold MT; omega)).trans (F q j y1 y2)
    obtain ⟨X2, f1, f2⟩ := m_rations hN (ρ0 := ρ0) (ρ := ρ) (J0 := J0) (J := J) h0 hR hL (c3 := c3) e (k + 1) fuel X1 (by omega) (by omega) dS
    refine ⟨X2, ?_, f2⟩
    have hb : (if (Int32.ofNat k = 0) then some (Int32.ofNat k, Int64.ofNat (vRa I0 r b h L k)) else (if (Int64.ofNat (vRa I0 r b h L k) ≤ encL 0 (vRa I0 r b h L) (bst (vRa I0 r b h L) k)) then some (encI 0 (bst (vRa I0 r b h L) k), encL 0 (vRa I0 r b h L) (bst (vRa I0 r b h L) k)) else some (Int32.ofNat k, Int64.ofNat (vRa I0 r b h L k)))) = some (encI 0 (bst (vRa I0 r b h L) (k + 1)), encL 0 (vRa I0 r b h L) (bst (vRa I0 r b h L) (k + 1))) := by
      rw [bst_s]
      cases hbb : bst (vRa I0 r b h L) k with
      | none =>
        have := bst_no hbb
        subst this
        exact if_pos (show Int32.ofNat 0 = 0 from rfl)
      | some g =>
        have hg := bst_lt hbb
        have le := encL_one (v := vRa I0 r b h L) (k := k) (fun g _ => by have := wHH_le h0 (r := r) (b := b) (h := h) (L := L) (ra := Int32.ofNat g) (w := 0); unfold vRa; omega) hbb
        rw [if_neg (by intro z; have := congrArg Int32.toInt z; rw [p_nI (by omega)] at this; have e : (0 : Int32).toInt = 0 := rfl; omega)]
        show (if Int64.ofNat (vRa I0 r b h L k) ≤ Int64.ofNat (vRa I0 r b h L g) then some (Int32.ofNat g, Int64.ofNat (vRa I0 r b h L g)) else _) = some (encI 0 (if vRa I0 r b h L k ≤ vRa I0 r b h L g then some g else some k), encL 0 (vRa I0 r b h L) (if vRa I0 r b h L k ≤ vRa I0 r b h L g then some g else some k))
        by_cases q : vRa I0 r b h L k ≤ vRa I0 r b h L g
        · rw [if_pos (le.mpr q), if_pos q]; rfl
        · rw [if_neg (fun z => q (le.mp z)), if_neg q]; rfl
    rw [f_X12_rations_24.eq_2, if_neg (by rw [fa_le, p_nI (by omega)]; show ¬ (100 : Int) ≤ _; omega), d1]
    simp only [Option.bind_some]
    rw [show wN 0 (tn (I0 89 0)) (HH (tn (I0 89 3)) I0 r b h L (Int32.ofNat k) (fun _ => true) (-1) 0) = vRa I0 r b h L k from rfl, hb]
    simp only [Option.bind_some]
    rw [p_succ (by omega)]
    exact f1
theorem op_rations {ρ : Rh} {I : Nat → Nat → Int32} {J : Nat → Nat → Int64} (N : Nat) (h : Inv ρ I J) (hN : 200 ≤ N) (r : Int32) : ∃ I1 J1 ρ1 v I2, f_X11_rations N ρ I J r = some (I1, J1, ρ1, v) ∧ f_X12_rations N ρ1 I1 J1 r = some (I2, v) ∧ Inv ρ1 I2 J1 := by
  have r2 := h.2.2.2.2.2.2.1.2.1
  unfold bw at r2
  have ir := m_isRule N ρ I J r (by omega)
  by_cases hr : 0 ≤ r.toInt ∧ r.toInt < (I 89 9).toInt
  · obtain ⟨a, g1, hR⟩ := ruleAt_rx N h hr.1 hr.2
    obtain ⟨t, l, b, hh, L, hL⟩ := lx_of h
    obtain ⟨I1, J1, ρ1, c1, c2⟩ := c_rations hN h hR hL 100 0 N ρ I J (by omega) (by omega) (SX.refl ρ I J)
    obtain ⟨X1, d1, d2⟩ := m_rations hN (ρ := ρ1) (J := J1) h hR hL (c3 := I1 89 5) 100 0 N I1 (by omega) (by omega) (fun q j y1 _ => c2.1 q j y1)
    have n9 : I1 89 9 = I 89 9 := c2.1 89 9 (by unfold SC; omega)
    have n5 : I1 89 5 = I 89 5 := c2.1 89 5 (by unfold SC; omega)
    have ir1 := m_isRule N ρ1 I1 J1 r (by rw [n9]; omega)
    rw [n9] at ir1
    have dS : SX ρ I J ρ1 (u2 X1 89 5 (I1 89 5)) J1 := by
      refine ⟨fun q j z => ?_, c2.2.1, c2.2.2.1, c2.2.2.2⟩
      by_cases y : q = 89 ∧ j = 5
      · obtain ⟨rfl, rfl⟩ := y
        rw [u2_at]; exact n5
      · rw [u2_fr (by omega)]; exact d2 q j z y
    refine ⟨I1, J1, ρ1, encI 0 (bst (vRa I (tn r) b hh L) 100), u2 X1 89 5 (I1 89 5), ?_, ?_, dS.inv h⟩
    · unfold f_X11_rations
      rw [g1]
      simp only [Option.bind_some, ocase_so]
      rw [show (bst (vRa I (tn r) b hh L) 0) = none from rfl, show Int32.ofNat 0 = (0 : Int32) from rfl] at c1
      rw [show encI 0 none = (0 : Int32) from rfl, show encL (-1) (fun g => 10 ^ (12 - tn (I 89 3)) * vRa I (tn r) b hh L g) none = (-1 : Int64) from rfl] at c1
      rw [c1]
      rfl
    · unfold f_X12_rations
      rw [ir1]
      simp only [Option.bind_some, p_b01]
      rw [if_neg (by omega)]
      rw [show (bst (vRa I (tn r) b hh L) 0) = none from rfl, show Int32.ofNat 0 = (0 : Int32) from rfl, p_tnb hr.1] at d1
      rw [show encI 0 none = (0 : Int32) from rfl, show encL 0 (vRa I (tn r) b hh L) none = (0 : Int64) from rfl] at d1
      rw [d1]
      rfl
  · have g1 := rule_out J N h.2.2.2.2.2.2.1 hr
    refine ⟨I, J, ρ, -5, I, ?_, ?_, h⟩
    · unfold f_X11_rations
      rw [g1]
      simp only [Option.bind_some, ocase_no]
    · unfold f_X12_rations
      rw [ir]
      simp only [Option.bind_some, p_b01]
      rw [if_pos hr]
