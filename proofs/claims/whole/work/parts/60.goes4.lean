/-! ===== the pure layer: the model's voyage in one ===== -/
def mAll (P : VP) (d e : Nat) (V : VS) (I : Nat → Nat → Int32) : Prop := (∀ x, x ≤ e → (∀ m, m < vmn P → I 100 (8 * (d + x) + m) = (trj P x d V).1 m) ∧ I 102 (d + x) = (trj P x d V).2.1 ∧ I 103 (d + x) = (trj P x d V).2.2.1) ∧ (∀ x, x < e → ∀ m, m < vmn P → I 101 (8 * (d + x) + m) = vgot P (d + x) (trj P x d V) m) ∧ I 89 23 = (trj P e d V).2.2.2.1
theorem m_days {N : Nat} (hN : 200 ≤ N) {ρ : Rh} {J : Nat → Nat → Int64} {P : VP} {r : Nat} {set : Int32} {I0 : Nat → Nat → Int32} (hB : mB N ρ J P r set I0) {D : Nat} (hD : D ≤ 12) (h3 : I0 89 3 = Int32.ofNat D) : ∀ (e d fuel : Nat) (V : VS) (I : Nat → Nat → Int32), d + e = D → e < fuel → moff I0 I → mR P d V I → kB V → ∃ I', f_X12_goes_72 N J ρ (Int32.ofNat r) set (vhid P) fuel I V.2.2.2.2 (Int32.ofNat d) = some I' ∧ moff I0 I' ∧ (∀ b j, ¬ (b = 89 ∧ j = 23) → ¬ (b = 100 ∧ 8 * d + 8 ≤ j) → ¬ (b = 101 ∧ 8 * d ≤ j) → ¬ (b = 102 ∧ d < j) → ¬ (b = 103 ∧ d < j) → ¬ b = 112 → ¬ b = 113 → I' b j = I b j) ∧ mAll P d e V I'
  | 0, d, fuel + 1, V, I, z1, z2, ho, hR, hk => by
    refine ⟨I, ?_, ho, fun _ _ _ _ _ _ _ _ _ => rfl, ?_⟩
    · rw [f_X12_goes_72.eq_2, ho 89 3 (by unfold MT; omega), h3]
      rw [if_pos (show Int32.ofNat D ≤ Int32.ofNat d from (p_ge (by omega) (by omega)).mpr (by omega))]
    · refine ⟨fun x hx => ?_, fun x hx => absurd hx (by omega), hR.2.2.2⟩
      have : x = 0 := by omega
      subst this
      exact ⟨hR.1, hR.2.1, hR.2.2.1⟩
  | e + 1, d, fuel + 1, V, I, z1, z2, ho, hR, hk => by
    have h8 := hB.1.2.1
    obtain ⟨I1, g1, g2, g3, g4, g5, g6⟩ := m_day hN hB ho hD (d := d) (by omega) h3 hR hk (fuel := fuel)
    obtain ⟨I2, f1, f2, f3, f4, f5, f6⟩ := m_days hN hB hD h3 e (d + 1) fuel (vstep P d V) I1 (by omega) (by omega) g2 g3 g4
    refine ⟨I2, g1.trans f1, f2, fun b j y1 y2 y3 y4 y5 y6 y7 => (f3 b j y1 (by omega) (by omega) (by omega) (by omega) y6 y7).trans (g6 b j y1 (by omega) (by omega) (by omega) (by omega) y6 y7), fun x hx => ?_, fun x hx m hm => ?_, f6⟩
    · cases x with
      | zero =>
        have w : ∀ b j, ((b = 100 ∧ j < 8 * d + 8) ∨ (b = 102 ∧ j = d) ∨ (b = 103 ∧ j = d)) → I2 b j = I b j := fun b j hb => (f3 b j (by omega) (by omega) (by omega) (by omega) (by omega) (by omega) (by omega)).trans (g6 b j (by omega) (by omega) (by omega) (by omega) (by omega) (by omega) (by omega))
        exact ⟨fun m hm => (w _ _ (by omega)).trans (hR.1 m hm), (w 102 d (by omega)).trans hR.2.1, (w 103 d (by omega)).trans hR.2.2.1⟩
      | succ x =>
        have := f4 x (by omega)
        rw [show d + 1 + x = d + (x + 1) by omega] at this
        exact this
    · cases x with
      | zero => exact (f3 _ _ (by omega) (by omega) (by omega) (by omega) (by omega) (by omega) (by omega)).trans (g5 m hm)
      | succ x =>
        have := f5 x (by omega) m hm
        rw [show d + 1 + x = d + (x + 1) by omega] at this
        exact this
def mOk (X : Nat → Nat → Int32) (f : Nat → Int32) (r t h L : Nat) : Prop := bw (X 89 0) 0 8 ∧ bw (X 89 3) 1 12 ∧ bw (X 89 4) 0 999 ∧ bw (X 89 5) 0 99 ∧ (∀ q, q < 12 → bw (X 92 q) 0 9 ∧ bw (X 93 q) 0 50) ∧ r < 8 ∧ bw (X 94 r) 0 5 ∧ (∀ m, m < 8 → bw (X 96 (8 * r + m)) 0 50) ∧ t < 6 ∧ X 89 18 = Int32.ofNat t ∧ X 99 (4 * t) = 0 ∧ X 99 (4 * t + 1) = Int32.ofNat h ∧ X 99 (4 * t + 2) = Int32.ofNat L ∧ h ≤ L ∧ L < 160 ∧ (∀ q, q < L → cmR (f q) (X 98 (200 * t + q))) ∧ seg f 0 h ∧ seg f h L
def PM (X : Nat → Nat → Int32) (f : Nat → Int32) (r h L : Nat) (kb : Nat → Bool) (hid : Int32) : VP := (tn (X 89 0), X 91, shv (X 94 r) (X 95 r) (fun m => X 96 (8 * r + m)) (X 91) (X 89 5), (fun nm => evl f nm 0 h), (fun nm => evl f nm h L), X 95 r, X 89 5, X 89 6, X 93, kb, hid)
theorem mOk.cong {X X' : Nat → Nat → Int32} {f : Nat → Int32} {r t h L : Nat} (k : mOk X f r t h L) (hF : ∀ a j, ((a = 89 ∧ (j = 0 ∨ j = 3 ∨ j = 4 ∨ j = 5 ∨ j = 18)) ∨ (92 ≤ a ∧ a ≤ 99)) → X' a j = X a j) : mOk X' f r t h L := by
  have a0 : X' 89 0 = X 89 0 := hF 89 0 (by omega)
  have a3 : X' 89 3 = X 89 3 := hF 89 3 (by omega)
  have a4 : X' 89 4 = X 89 4 := hF 89 4 (by omega)
  have a5 : X' 89 5 = X 89 5 := hF 89 5 (by omega)
  have a18 : X' 89 18 = X 89 18 := hF 89 18 (by omega)
  have b2 : ∀ q, X' 92 q = X 92 q := fun q => hF 92 q (by omega)
  have b3 : ∀ q, X' 93 q = X 93 q := fun q => hF 93 q (by omega)
  have b4 : ∀ q, X' 94 q = X 94 q := fun q => hF 94 q (by omega)
  have b6 : ∀ q, X' 96 q = X 96 q := fun q => hF 96 q (by omega)
  have b8 : ∀ q, X' 98 q = X 98 q := fun q => hF 98 q (by omega)
  have b9 : ∀ q, X' 99 q = X 99 q := fun q => hF 99 q (by omega)
  unfold mOk at k ⊢
  simp only [a0, a3, a4, a5, a18, b2, b3, b4, b6, b8, b9]
  exact k
theorem mB_of {N : Nat} (hN : 200 ≤ N) {ρ : Rh} {X : Nat → Nat → Int32} {J : Nat → Nat → Int64} {f : Nat → Int32} {r t h L : Nat} (hk : mOk X f r t h L) {set hid : Int32} {kb : Nat → Bool} (hkb : ∀ m, m < tn (X 89 0) → ((((set) >>> (Int32.ofNat m &&& 31)) &&& 1) = 1 ↔ kb m = true)) : mB N ρ J (PM X f r h L kb hid) r set X := by
  obtain ⟨k0, k3, k4, k5, k6, k7, k8, k9, k10, k11, k12, k13, k14, k15, k16, k17, k18, k19⟩ := hk
  unfold bw at k0 k5
  have tt := p_tnc (X 89 0) k0.1
  have h8 : tn (X 89 0) ≤ 8 := by omega
  refine ⟨⟨(p_tnb k0.1).symm, h8, k7⟩, fun m hm => rfl, ⟨rfl, k5.1, k5.2⟩, hkb, rfl, fun q hq => ⟨rfl, (k6 q hq).2⟩, rfl, ?_, ?_, ?_, ?_⟩
  · intro I ho d m st many ah hm hd hmany hst
    have hm' : m < tn (X 89 0) := hm
    have e94 : I 94 r = X 94 r := ho 94 r (by unfold MT; omega)
    have e95 : I 95 r = X 95 r := ho 95 r (by unfold MT; omega)
    exact m_share (ra := X 89 5) (num := fun m => X 96 (8 * r + m)) (rw := X 91) k7 e94.symm (by rw [e94]; exact k8) e95.symm (ho 96 _ (by unfold MT; omega)).symm (by omega) hd hmany (ho 89 5 (by unfold MT; omega)) hst (ho 91 m (by unfold MT; omega)).symm
  · intro d st many ah m hm hmany
    have hm' : m < tn (X 89 0) := hm
    have q9 : 0 ≤ ((fun m => X 96 (8 * r + m)) m).toInt := (k9 m (by omega)).1
    show 0 ≤ (shv (X 94 r) (X 95 r) (fun m => X 96 (8 * r + m)) (X 91) (X 89 5) d st many ah m).toInt
    exact shv_ge (k := X 94 r) (mo := X 95 r) (num := fun m => X 96 (8 * r + m)) (rw := X 91) (ra := X 89 5) (d := d) (st := st) (many := many) (ah := ah) (m := m) k5.1 k5.2 hmany q9
  · intro I nm most ho hnm
    exact m_worth hN (part := 1) (t := t) (i := h) (j := L) (p1 := 1) rfl (by omega) k10 k16 k19 ((ho 89 18 (by unfold MT; omega)).trans k11) ((ho 99 _ (by unfold MT; omega)).trans k13) ((ho 99 _ (by unfold MT; omega)).trans k14) (fun q q1 q2 => by rw [ho 98 _ (by unfold MT; omega)]; exact k17 q q2) hnm
  · intro I nm most ho hnm
    exact m_worth hN (part := 0) (t := t) (i := 0) (j := h) (p1 := 0) rfl (by omega) k10 (by omega) k18 ((ho 89 18 (by unfold MT; omega)).trans k11) ((ho 99 _ (by unfold MT; omega)).trans k12) ((ho 99 _ (by unfold MT; omega)).trans k13) (fun q q1 q2 => by rw [ho 98 _ (by unfold MT; omega)]; exact k17 q (by omega)) hnm
theorem m_goes {N : Nat} (hN : 200 ≤ N) {ρ : Rh} {X : Nat → Nat → Int32} {J : Nat → Nat → Int64} {f : Nat → Int32} {r t h L : Nat} (hk : mOk X f r t h L) {set hid hides : Int32} {kb : Nat → Bool} (hkb : ∀ m, m < tn (X 89 0) → ((((set) >>> (Int32.ofNat m &&& 31)) &&& 1) = 1 ↔ kb m = true)) : ∃ I', f_X12_goes N ρ X J (Int32.ofNat r) set hid hides = some I' ∧ (∀ b j, ¬ MT b j → I' b j = X b j) ∧ mAll (PM X f r h L kb hid) 0 (tn (X 89 3)) (V0 X hides) I' := by
  have hB := mB_of hN (ρ := ρ) (J := J) hk (hid := hid) hkb
  obtain ⟨k0, k3, k4, k5, k6, k7, k8, k9, k10, k11, k12, k13, k14, k15, k16, k17, k18, k19⟩ := id hk
  unfold bw at k0 k3 k4 k5
  have tt := p_tnc (X 89 0) k0.1
  have t3 := p_tnc (X 89 3) (by omega)
  have hn : X 89 0 = Int32.ofNat (tn (X 89 0)) := (p_tnb k0.1).symm
  have loop : ∀ (e k fuel : Nat) (I : Nat → Nat → Int32), k + e = 8 → e < fuel → I 89 0 = X 89 0 → (∀ m, I 90 m = X 90 m) → ∃ I', f_X12_goes_7 N J ρ (Int32.ofNat r) set hid hides fuel I (Int32.ofNat k) = some I' ∧ (∀ b j, ¬ (b = 100 ∧ k ≤ j ∧ j < 8) → I' b j = I b j) ∧ (∀ m, k ≤ m → m < tn (X 89 0) → I' 100 m = X 90 m) := by
    intro e
    induction e with
    | zero =>
      intro k fuel I z1 z2 h1 h2
      cases fuel with
      | zero => omega
      | succ fuel =>
        refine ⟨I, ?_, fun _ _ _ => rfl, fun m m1 m2 => absurd m1 (by omega)⟩
        rw [f_X12_goes_7.eq_2, if_pos (by rw [fa_le, p_nI (by omega)]; show (8 : Int) ≤ _; omega)]
    | succ e ih =>
      intro k fuel I z1 z2 h1 h2
      cases fuel with
      | zero => omega
      | succ fuel =>
        have xk := p_ixn (k := k) (n := 8) (by omega) (by omega)
        have x1 := p_ixn (k := k) (n := 104) (by omega) (by omega)
        have tk := p_tnI (n := k) (by omega)
        have hj : (if X 89 0 ≤ Int32.ofNat k then some (0 : Int32) else (if ¬ (Int32.ofNat k < 0 ∨ 8 ≤ tn (Int32.ofNat k)) then some (X 90 (tn (Int32.ofNat k))) else none)) = some (if tn (X 89 0) ≤ k then 0 else X 90 k) := by
          rw [hn]
          by_cases hq : tn (X 89 0) ≤ k
          · rw [if_pos ((p_ge (by omega) (by omega)).mpr hq), p_tnI (by omega), if_pos hq]
          · rw [if_neg (fun z => hq ((p_ge (by omega) (by omega)).mp z)), if_pos xk, tk, p_tnI (by omega), if_neg hq]
        obtain ⟨I', g1, g2, g3⟩ := ih (k + 1) fuel (u2 I 100 k (if tn (X 89 0) ≤ k then 0 else X 90 k)) (by omega) (by omega) ((u2_fr (by omega)).trans h1) (fun m => (u2_fr (by omega)).trans (h2 m))
        refine ⟨I', ?_, fun b j z => (g2 b j (by omega)).trans (u2_fr (by omega)), fun m m1 m2 => ?_⟩
        · rw [f_X12_goes_7.eq_2, if_neg (by rw [fa_le, p_nI (by omega)]; show ¬ (8 : Int) ≤ _; omega), h1, h2, hj]
          simp only [Option.bind_some]
          rw [if_pos x1, tk, p_succ (by omega)]
          exact g1
        · by_cases hm : m = k
          · subst hm
            rw [g2 100 m (by omega), u2_at, if_neg (by omega)]
          · exact g3 m (by omega) m2
  obtain ⟨I1, a1, a2, a3⟩ := loop 8 0 N X (by omega) (by omega) rfl (fun _ => rfl)
  have hR : mR (PM X f r h L kb hid) 0 (V0 X hides) (u2 (u2 (u2 I1 102 0 (I1 89 4)) 103 0 0) 89 23 (-1)) := by
    refine ⟨fun m hm => ?_, ?_, ?_, u2_at⟩
    · rw [u2_fr (by omega), u2_fr (by omega), u2_fr (by omega), show 8 * 0 + m = m by omega]
      exact a3 m (Nat.zero_le _) hm
    · rw [u2_fr (by omega), u2_fr (by omega), u2_at]
      exact a2 89 4 (by omega)
    · rw [u2_fr (by omega), u2_at]; rfl
  obtain ⟨I2, f1, f2, f3, f4⟩ := m_days hN hB (D := tn (X 89 3)) (by omega) (p_tnb (by omega)).symm (tn (X 89 3)) 0 N (V0 X hides) (u2 (u2 (u2 I1 102 0 (I1 89 4)) 103 0 0) 89 23 (-1)) (by omega) (by omega) (fun b j z => by
    unfold MT at z
    rw [u2_fr (by omega), u2_fr (by omega), u2_fr (by omega), a2 b j (by omega)]) hR ⟨k4.1, by show (X 89 4).toInt ≤ 9999; omega⟩
  refine ⟨I2, ?_, f2, f4⟩
  unfold f_X12_goes
  rw [show Int32.ofNat 0 = (0 : Int32) from rfl] at a1 f1
  rw [a1]
  simp only [Option.bind_some]
  rw [show (V0 X hides).2.2.2.2 = hides from rfl, show vhid (PM X f r h L kb hid) = hid from rfl] at f1
  rw [f1]
  rfl
