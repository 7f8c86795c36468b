/-! ===== the pure layer: both voyages ===== -/
def SX (ρ0 : Rh) (I0 : Nat → Nat → Int32) (J0 : Nat → Nat → Int64) (ρ : Rh) (I : Nat → Nat → Int32) (J : Nat → Nat → Int64) : Prop := (∀ b j, ¬ SC b j → I b j = I0 b j) ∧ (∀ j, J 110 j = J0 110 j) ∧ (∀ b j, ¬ (b = 48 ∧ j = 8) → ρ.1 b j = ρ0.1 b j) ∧ ρ.2 = ρ0.2
theorem SX.refl (ρ : Rh) (I : Nat → Nat → Int32) (J : Nat → Nat → Int64) : SX ρ I J ρ I J := ⟨fun _ _ _ => rfl, fun _ => rfl, fun _ _ _ => rfl, rfl⟩
theorem SX.trans {ρ0 ρ1 ρ2 : Rh} {I0 I1 I2 : Nat → Nat → Int32} {J0 J1 J2 : Nat → Nat → Int64} (h : SX ρ0 I0 J0 ρ1 I1 J1) (k : SX ρ1 I1 J1 ρ2 I2 J2) : SX ρ0 I0 J0 ρ2 I2 J2 := ⟨fun b j z => (k.1 b j z).trans (h.1 b j z), fun j => (k.2.1 j).trans (h.2.1 j), fun b j z => (k.2.2.1 b j z).trans (h.2.2.1 b j z), k.2.2.2.trans h.2.2.2⟩
theorem SX.inv {ρ0 ρ : Rh} {I0 I : Nat → Nat → Int32} {J0 J : Nat → Nat → Int64} (h : SX ρ0 I0 J0 ρ I J) (h0 : Inv ρ0 I0 J0) : Inv ρ I J := by
  have e : ρ = (u2 ρ0.1 48 8 (ρ.1 48 8), ρ0.2) := by
    refine Prod.ext ?_ h.2.2.2
    funext b j
    show ρ.1 b j = u2 ρ0.1 48 8 (ρ.1 48 8) b j
    by_cases q : b = 48 ∧ j = 8
    · obtain ⟨rfl, rfl⟩ := q
      rw [u2_at]
    · rw [u2_fr (by omega)]; exact h.2.2.1 b j q
  rw [e]
  exact inv_scratch h0 _ h.1 h.2.1
def RX (ρ : Rh) (I : Nat → Nat → Int32) (r a : Nat) : Prop := r < 8 ∧ (r : Int) < (I 89 9).toInt ∧ ρ.1 33 r = some a ∧ vRule1 ρ I r a
def LX (ρ : Rh) (I : Nat → Nat → Int32) (t l b h L : Nat) : Prop := ρ.1 42 6 = some l ∧ lawOk ρ I l b h L ∧ t < 6 ∧ I 89 18 = Int32.ofNat t ∧ I 99 (4 * t) = 0 ∧ I 99 (4 * t + 1) = Int32.ofNat h ∧ I 99 (4 * t + 2) = Int32.ofNat L ∧ ∀ q, q < L → cmR (I b q) (I 98 (200 * t + q))
theorem lx_of {ρ : Rh} {I : Nat → Nat → Int32} {J : Nat → Nat → Int64} (h : Inv ρ I J) : ∃ t l b h L, LX ρ I t l b h L := by
  obtain ⟨sh, hm, ht, hd, hp, hs, hr, hl, hf, hi, hw⟩ := id h
  obtain ⟨t, l, f1, f2, f3, f4, f5, b, hh, n, a1, a2, a3, a4, a5, a6, a7, a8, a9, a10, a11, a12, a13, a14⟩ := law_now hl hf
  exact ⟨t, l, b, hh, n, f4, ⟨a1, a2, a4, a8, a9, a10, a12, a13, by omega⟩, f2, f3, a5, a6, a7, a11⟩
theorem rx_of {ρ : Rh} {I : Nat → Nat → Int32} {J : Nat → Nat → Int64} (h : Inv ρ I J) {r : Nat} (hr1 : (r : Int) < (I 89 9).toInt) : ∃ a, RX ρ I r a := by
  obtain ⟨sh, hm, ht, hd, hp, hs, hr, hl, hf, hi, hw⟩ := id h
  obtain ⟨r1, r2, r3⟩ := hr
  unfold bw at r2
  obtain ⟨a, h1, h2⟩ := (r3 r (by omega)).1 hr1
  exact ⟨a, by omega, hr1, h1, h2⟩
theorem SX.rule {ρ0 ρ : Rh} {I0 I : Nat → Nat → Int32} {J0 J : Nat → Nat → Int64} (h : SX ρ0 I0 J0 ρ I J) (h0 : Inv ρ0 I0 J0) {r a : Nat} (hr : RX ρ0 I0 r a) : RX ρ I r a := by
  obtain ⟨r1, r2, r3, r4⟩ := hr
  have a115 := r4.1
  have sh := h0.1
  refine ⟨r1, by rw [h.1 89 9 (by unfold SC; omega)]; exact r2, (h.2.2.1 33 r (by omega)).trans r3, ?_⟩
  have hG : Grw ρ0 ρ := ⟨by rw [h.2.2.2]; exact Nat.le_refl _, fun b _ => by rw [h.2.2.2], sh.ge⟩
  exact gr_vRule1 hG (fun z1 z2 => h.2.2.1 a 2 (by omega)) (fr_vRule1 (fun q j hq => h.1 q j (by unfold SC; omega)) r4)
theorem SX.law {ρ0 ρ : Rh} {I0 I : Nat → Nat → Int32} {J0 J : Nat → Nat → Int64} (h : SX ρ0 I0 J0 ρ I J) {t l b hh L : Nat} (hl : LX ρ0 I0 t l b hh L) : LX ρ I t l b hh L := by
  obtain ⟨l1, ⟨k1, k2, k3, k4, k5, k6, k7, k8, k9⟩, l2, l3, l4, l5, l6, l7⟩ := hl
  have eb : I b = I0 b := funext fun q => h.1 b q (by unfold SC; omega)
  refine ⟨(h.2.2.1 42 6 (by omega)).trans l1, ⟨by rw [h.2.2.2]; exact k1, (h.2.2.1 l 1 (by omega)).trans k2, (h.1 l 2 (by unfold SC; omega)).trans k3, by rw [h.2.2.2]; exact k4, k5, k6, by rw [eb]; exact k7, by rw [eb]; exact k8, k9⟩, l2, (h.1 89 18 (by unfold SC; omega)).trans l3, (h.1 99 _ (by unfold SC; omega)).trans l4, (h.1 99 _ (by unfold SC; omega)).trans l5, (h.1 99 _ (by unfold SC; omega)).trans l6, fun q hq => ?_⟩
  rw [eb, h.1 98 _ (by unfold SC; omega)]
  exact l7 q hq
theorem mok_of {ρ : Rh} {I : Nat → Nat → Int32} {J : Nat → Nat → Int64} (h : Inv ρ I J) {r a t l b hh L : Nat} (hR : RX ρ I r a) (hL : LX ρ I t l b hh L) : mOk I (I b) r t hh L := by
  obtain ⟨sh, hm, ht, hd, hp, hs, hr, hl, hf, hi, hw⟩ := id h
  obtain ⟨r1, r2, r3, r4⟩ := hR
  obtain ⟨l1, ⟨k1, k2, k3, k4, k5, k6, k7, k8, k9⟩, l2, l3, l4, l5, l6, l7⟩ := hL
  obtain ⟨t1, t2, t3, t4, t5, t6, t7, t8⟩ := ht
  obtain ⟨a1, a2, a3, a4, a5, a6, a7, a8, a9, a10⟩ := r4
  exact ⟨hm.2.1, t5, t6, t7, fun q hq => ⟨(hd q hq).2.2.1, (hd q hq).2.2.2⟩, r1, a6, a8, l2, l3, l4, l5, l6, k5, k6, l7, k7, k8⟩
theorem PM_cong {X X' : Nat → Nat → Int32} {f : Nat → Int32} {r h L : Nat} {kb : Nat → Bool} {hid : Int32} (hF : ∀ a j, ((a = 89 ∧ (j = 0 ∨ j = 5 ∨ j = 6)) ∨ a = 91 ∨ a = 93 ∨ a = 94 ∨ a = 95 ∨ a = 96) → X' a j = X a j) : PM X' f r h L kb hid = PM X f r h L kb hid := by
  have a0 : X' 89 0 = X 89 0 := hF 89 0 (by omega)
  have a5 : X' 89 5 = X 89 5 := hF 89 5 (by omega)
  have a6 : X' 89 6 = X 89 6 := hF 89 6 (by omega)
  have b1 : X' 91 = X 91 := funext fun q => hF 91 q (by omega)
  have b3 : X' 93 = X 93 := funext fun q => hF 93 q (by omega)
  have b4 : X' 94 r = X 94 r := hF 94 r (by omega)
  have b5 : X' 95 r = X 95 r := hF 95 r (by omega)
  have b6 : X' 96 = X 96 := funext fun q => hF 96 q (by omega)
  unfold PM
  rw [a0, a5, a6, b1, b3, b4, b5, b6]
theorem PV_cong {X X' : Nat → Nat → Int32} {r b h L : Nat} {ra : Int32} {kb : Nat → Bool} {hid : Int32} (hF : ∀ a j, ((a = 89 ∧ (j = 0 ∨ j = 6)) ∨ a = 91 ∨ a = 93 ∨ a = 94 ∨ a = 95 ∨ a = 96 ∨ a = b) → X' a j = X a j) : PV X' r b h L ra kb hid = PV X r b h L ra kb hid := by
  have a0 : X' 89 0 = X 89 0 := hF 89 0 (by omega)
  have a6 : X' 89 6 = X 89 6 := hF 89 6 (by omega)
  have b1 : X' 91 = X 91 := funext fun q => hF 91 q (by omega)
  have b3 : X' 93 = X 93 := funext fun q => hF 93 q (by omega)
  have b4 : X' 94 r = X 94 r := hF 94 r (by omega)
  have b5 : X' 95 r = X 95 r := hF 95 r (by omega)
  have b6 : X' 96 = X 96 := funext fun q => hF 96 q (by omega)
  have bb : X' b = X b := funext fun q => hF b q (by omega)
  unfold PV
  rw [a0, a6, b1, b3, b4, b5, b6, bb]
theorem V0_cong {X X' : Nat → Nat → Int32} {hides : Int32} (hF : ∀ a j, ((a = 89 ∧ j = 4) ∨ a = 90) → X' a j = X a j) : V0 X' hides = V0 X hides := by
  unfold V0
  rw [hF 89 4 (by omega), show X' 90 = X 90 from funext fun q => hF 90 q (by omega)]
/-- a rule's HOMES over a state -/
def HH (n : Nat) (I : Nat → Nat → Int32) (r b h L : Nat) (ra : Int32) (kb : Nat → Bool) (hid hides : Int32) (m : Nat) : Nat := HM n (chn I) (PV I r b h L ra kb hid) (V0 I hides) (tn (I 89 3)) m
theorem c_sailX {N : Nat} (hN : 200 ≤ N) {ρ0 ρ : Rh} {I0 I : Nat → Nat → Int32} {J0 J : Nat → Nat → Int64} (h0 : Inv ρ0 I0 J0) (hS : SX ρ0 I0 J0 ρ I J) {r a t l b h L : Nat} (hR : RX ρ0 I0 r a) (hL : LX ρ0 I0 t l b h L) {ra set hid hides : Int32} {kb : Nat → Bool} (hkb : ∀ m, m < tn (I0 89 0) → ((((set) >>> (Int32.ofNat m &&& 31)) &&& 1) = 1 ↔ kb m = true)) : ∃ I1 J1 ρ1, f_X10_sailAs N ρ I J a ra set hid hides = some (I1, J1, ρ1) ∧ SX ρ0 I0 J0 ρ1 I1 J1 ∧ (∀ q j, ¬ q = 78 → J1 q j = J q j) ∧ (∀ q j, ¬ ((q = 48 ∧ 9 ≤ j) ∨ (50 ≤ q ∧ q ≤ 62) ∨ (64 ≤ q ∧ q ≤ 77) ∨ q = 79 ∨ q = 80) → I1 q j = I q j) ∧ cAll (PV I0 r b h L ra kb hid) 0 (tn (I0 89 3)) (V0 I0 hides) I1 ∧ ∀ m, m < tn (I0 89 0) → J1 78 m = Int64.ofNat (HH 12 I0 r b h L ra kb hid hides m) := by
  have hI := hS.inv h0
  have R := hS.rule h0 hR
  have Lw := hS.law hL
  obtain ⟨l1, k, l2⟩ := id Lw
  have F : ∀ q j, ¬ SC q j → I q j = I0 q j := hS.1
  have n0 : I 89 0 = I0 89 0 := F 89 0 (by unfold SC; omega)
  have n3 : I 89 3 = I0 89 3 := F 89 3 (by unfold SC; omega)
  have kb9 : b = 40 ∨ 115 ≤ b := by have := k.2.2.2.2.2.2.2.2; omega
  have eP : PV I r b h L ra kb hid = PV I0 r b h L ra kb hid := PV_cong (fun q j hq => F q j (by unfold SC; omega))
  have eV : V0 I hides = V0 I0 hides := V0_cong (fun q j hq => F q j (by unfold SC; omega))
  have eC : chn I = chn I0 := funext fun d => by unfold chn; rw [F 92 d (by unfold SC; omega)]
  obtain ⟨I1, J1, c1, c2, c3, c4, c5⟩ := c_sail hN hI R.1 R.2.2.2 l1 k (ra := ra) (set := set) (hid := hid) (hides := hides) (kb := kb) (by rw [n0]; exact hkb)
  rw [eP, eV, n3] at c4
  refine ⟨I1, J1, _, c1, hS.trans ⟨fun q j z => c2 q j (by unfold SC at z; omega), fun j => c3 110 j (by omega), fun q j z => u2_fr (by omega), rfl⟩, c3, c2, c4, fun m hm => ?_⟩
  rw [c5 m (by rw [n0]; exact hm)]
  unfold HH
  rw [eP, eV, n3, eC]
theorem m_goesX {N : Nat} (hN : 200 ≤ N) {ρ0 ρ : Rh} {I0 X : Nat → Nat → Int32} {J0 J : Nat → Nat → Int64} (h0 : Inv ρ0 I0 J0) (hS : SX ρ0 I0 J0 ρ X J) {r a t l b h L : Nat} (hR : RX ρ0 I0 r a) (hL : LX ρ0 I0 t l b h L) {set hid hides : Int32} {kb : Nat → Bool} (hkb : ∀ m, m < tn (I0 89 0) → ((((set) >>> (Int32.ofNat m &&& 31)) &&& 1) = 1 ↔ kb m = true)) : ∃ X1, f_X12_goes N ρ X J (Int32.ofNat r) set hid hides = some X1 ∧ SX ρ0 I0 J0 ρ X1 J ∧ (∀ q j, ¬ MT q j → X1 q j = X q j) ∧ mAll (PV I0 r b h L (I0 89 5) kb hid) 0 (tn (I0 89 3)) (V0 I0 hides) X1 := by
  have hI := hS.inv h0
  have R := hS.rule h0 hR
  have Lw := hS.law hL
  have hk := mok_of hI R Lw
  obtain ⟨l1, k, l2⟩ := id Lw
  have F : ∀ q j, ¬ SC q j → X q j = I0 q j := hS.1
  have n0 : X 89 0 = I0 89 0 := F 89 0 (by unfold SC; omega)
  have n3 : X 89 3 = I0 89 3 := F 89 3 (by unfold SC; omega)
  have n5 : X 89 5 = I0 89 5 := F 89 5 (by unfold SC; omega)
  have kb9 : b = 40 ∨ 115 ≤ b := by have := k.2.2.2.2.2.2.2.2; omega
  have eP : PV X r b h L (X 89 5) kb hid = PV I0 r b h L (I0 89 5) kb hid := by rw [n5]; exact PV_cong (fun q j hq => F q j (by unfold SC; omega))
  have eV : V0 X hides = V0 I0 hides := V0_cong (fun q j hq => F q j (by unfold SC; omega))
  obtain ⟨X1, c1, c2, c3⟩ := m_goes hN (ρ := ρ) (J := J) hk (set := set) (hid := hid) (hides := hides) (kb := kb) (by rw [n0]; exact hkb)
  rw [show PM X (X b) r h L kb hid = PV X r b h L (X 89 5) kb hid from rfl, eP, eV, n3] at c3
  exact ⟨X1, c1, hS.trans ⟨fun q j z => c2 q j (by unfold SC at z; unfold MT; omega), fun _ => rfl, fun _ _ _ => rfl, rfl⟩, c2, c3⟩
theorem bit255 {m : Nat} (h : m < 8) : ((((255 : Int32) >>> (Int32.ofNat m &&& 31)) &&& 1) = 1 ↔ (fun _ => true : Nat → Bool) m = true) := by
  have c : m = 0 ∨ m = 1 ∨ m = 2 ∨ m = 3 ∨ m = 4 ∨ m = 5 ∨ m = 6 ∨ m = 7 := by omega
  rcases c with c | c | c | c | c | c | c | c <;> subst c <;> decide
theorem bitall {m n : Nat} (hn : n ≤ 8) (h : m < n) : (((((((1 : Int32) <<< (Int32.ofNat n &&& 31)) - 1) : Int32) >>> (Int32.ofNat m &&& 31)) &&& 1) = 1 ↔ (fun _ => true : Nat → Bool) m = true) := by
  have key : ∀ n : Nat, n ≤ 8 → ∀ m : Nat, m < n → (((((1 : Int32) <<< (Int32.ofNat n &&& 31)) - 1) : Int32) >>> (Int32.ofNat m &&& 31)) &&& 1 = 1 := by decide
  exact ⟨fun _ => rfl, fun _ => key n hn m h⟩
/-- the plain voyage of both -/
theorem c_sailP {N : Nat} (hN : 200 ≤ N) {ρ0 ρ : Rh} {I0 I : Nat → Nat → Int32} {J0 J : Nat → Nat → Int64} (h0 : Inv ρ0 I0 J0) (hS : SX ρ0 I0 J0 ρ I J) {r a t l b h L : Nat} (hR : RX ρ0 I0 r a) (hL : LX ρ0 I0 t l b h L) : ∃ I1 J1 ρ1, f_X10_sail N ρ I J a = some (I1, J1, ρ1) ∧ SX ρ0 I0 J0 ρ1 I1 J1 ∧ (∀ q j, ¬ q = 78 → J1 q j = J q j) ∧ (∀ q j, ¬ ((q = 48 ∧ 9 ≤ j) ∨ (50 ≤ q ∧ q ≤ 62) ∨ (64 ≤ q ∧ q ≤ 77) ∨ q = 79 ∨ q = 80) → I1 q j = I q j) ∧ cAll (PV I0 r b h L (I0 89 5) (fun _ => true) (-1)) 0 (tn (I0 89 3)) (V0 I0 0) I1 ∧ ∀ m, m < tn (I0 89 0) → J1 78 m = Int64.ofNat (HH 12 I0 r b h L (I0 89 5) (fun _ => true) (-1) 0 m) := by
  have hm := h0.2.1.2.1
  unfold bw at hm
  have tt := p_tnc (I0 89 0) hm.1
  obtain ⟨I1, J1, ρ1, c1, c2, c3, c4, c5, c6⟩ := c_sailX hN h0 hS hR hL (ra := I0 89 5) (set := 255) (hid := -1) (hides := 0) (kb := fun _ => true) (fun m hm => bit255 (by omega))
  refine ⟨I1, J1, ρ1, ?_, c2, c3, c4, c5, c6⟩
  unfold f_X10_sail
  rw [hS.1 45 2 (by unfold SC; omega), h0.2.2.1.2.2.1, c1]
  rfl
theorem m_goesP {N : Nat} (hN : 200 ≤ N) {ρ0 ρ : Rh} {I0 X : Nat → Nat → Int32} {J0 J : Nat → Nat → Int64} (h0 : Inv ρ0 I0 J0) (hS : SX ρ0 I0 J0 ρ X J) {r a t l b h L : Nat} (hR : RX ρ0 I0 r a) (hL : LX ρ0 I0 t l b h L) : ∃ X1, f_X12_goesPlain N ρ X J (Int32.ofNat r) = some X1 ∧ SX ρ0 I0 J0 ρ X1 J ∧ (∀ q j, ¬ MT q j → X1 q j = X q j) ∧ mAll (PV I0 r b h L (I0 89 5) (fun _ => true) (-1)) 0 (tn (I0 89 3)) (V0 I0 0) X1 := by
  have hm := h0.2.1.2.1
  unfold bw at hm
  have tt := p_tnc (I0 89 0) hm.1
  have n0 : X 89 0 = Int32.ofNat (tn (I0 89 0)) := (hS.1 89 0 (by unfold SC; omega)).trans (p_tnb hm.1).symm
  obtain ⟨X1, c1, c2, c3, c4⟩ := m_goesX hN h0 hS hR hL (set := ((1 : Int32) <<< (Int32.ofNat (tn (I0 89 0)) &&& 31)) - 1) (hid := -1) (hides := 0) (kb := fun _ => true) (fun m hm => bitall (by omega) hm)
  refine ⟨X1, ?_, c2, c3, c4⟩
  unfold f_X12_goesPlain f_X12_all
  simp only [Option.bind_some]
  rw [n0, c1]
  rfl
