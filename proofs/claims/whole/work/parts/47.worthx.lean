/-! ===== the pure layer: need, row, worth ===== -/
def cl (v most : Int32) : Int32 := if 0 ≤ v then (if v ≤ most then v else most) else 0
theorem cl_bw {v most : Int32} (h : 0 ≤ most.toInt) : 0 ≤ (cl v most).toInt ∧ (cl v most).toInt ≤ most.toInt := by
  unfold cl
  by_cases h1 : 0 ≤ v
  · rw [if_pos h1]
    rw [fa_le] at h1
    have h1 : (0 : Int) ≤ v.toInt := h1
    by_cases h2 : v ≤ most
    · rw [if_pos h2]; rw [fa_le] at h2; exact ⟨h1, h2⟩
    · rw [if_neg h2]; exact ⟨h, Int.le_refl _⟩
  · rw [if_neg h1]; exact ⟨Int.le_refl _, h⟩
theorem c_bound {N : Nat} {ρ : Rh} {I : Nat → Nat → Int32} {J : Nat → Nat → Int64} {v most : Int32} (h : 0 ≤ most.toInt) : f_X10_bound N ρ I J v most = some (cl v most) := by
  unfold f_X10_bound cl
  congr 1
  by_cases h1 : v.toInt < most.toInt
  · have h1' : v < most := by rw [fa_lt]; exact h1
    have h2 : v ≤ most := by rw [fa_le]; omega
    rw [if_pos h1', if_pos h2]
    by_cases h3 : 0 < v.toInt
    · rw [if_pos (by rw [fa_lt]; exact h3), if_pos (by rw [fa_le]; show (0 : Int) ≤ _; omega)]
    · rw [if_neg (by rw [fa_lt]; exact h3)]
      by_cases h4 : v.toInt = 0
      · rw [show v = 0 from p_eq h4]; rfl
      · rw [if_neg (by rw [fa_le]; show ¬ (0 : Int) ≤ _; omega)]
  · have h1' : ¬ v < most := by rw [fa_lt]; exact h1
    rw [if_neg h1']
    have hv : (if v ≤ most then v else most) = most := by
      by_cases h2 : v ≤ most
      · rw [if_pos h2]; rw [fa_le] at h2; exact p_eq (by omega)
      · rw [if_neg h2]
    rw [hv]
    by_cases h3 : 0 < most.toInt
    · rw [if_pos (by rw [fa_lt]; exact h3), if_pos (by rw [fa_le]; show (0 : Int) ≤ _; omega)]
    · have h4 : most = 0 := p_eq (by show _ = (0 : Int); omega)
      rw [h4]
      split <;> split <;> rfl
theorem c_value {N : Nat} (hN : 200 ≤ N) {ρ : Rh} {I : Nat → Nat → Int32} {J : Nat → Nat → Int64} {a b L i j : Nat} {f nm : Nat → Int32} (ka : ρ.2.1 a = (0, 2)) (rb : ρ.1 a 1 = some b) (kb : ρ.2.1 b = (1, L)) (b80 : b ≠ 80) (hjL : j ≤ L) (hL : L < 160) (hs : seg f i j) (hI : ∀ q, I b q = f q) (hn : ∀ q, q < 6 → I 79 q = nm q) : ∃ I', f_X2_value N ρ I J a (Int32.ofNat i) (Int32.ofNat j) = some (I', evl f nm i j) ∧ (∀ x q, ¬ x = 80 → I' x q = I x q) := by
  obtain ⟨D, d1, d2, d3, d4⟩ := hs
  obtain ⟨I', g1, g2, g3⟩ := c_val (N := N) (J := J) (D := D) (f := f) (nm := nm) (i := i) (p2 := Int32.ofNat j) ka rb kb b80 rfl hjL hL d4 (j - i) i N I (fun _ => 0) (by omega) (by omega) (by omega) (by omega) hI hn (fun q hq => absurd hq (by omega))
  refine ⟨I', ?_, g2⟩
  unfold f_X2_value
  rw [d1, show Int32.ofNat 0 = (0 : Int32) from rfl] at g1
  rw [g1]
  show (if Int32.ofNat (D j) ≤ 0 then some (I', (0 : Int32)) else (if ¬ (Int32.ofNat (D j) - 1 < 0 ∨ 160 ≤ tn (Int32.ofNat (D j) - 1)) then some (I', I' 80 (tn (Int32.ofNat (D j) - 1))) else none)) = _
  rw [d2, if_neg (by decide), p_pred (by omega) (by omega), if_pos (p_ixn (by omega) (by omega)), p_tnI (by omega), g3 0 (by omega), d1]
  rfl
theorem c_need {N : Nat} (hN : 200 ≤ N) {ρ : Rh} {I : Nat → Nat → Int32} {J : Nat → Nat → Int64} {a b h L : Nat} {f nm : Nat → Int32} (ka : ρ.2.1 a = (0, 2)) (rb : ρ.1 a 1 = some b) (kb : ρ.2.1 b = (1, L)) (b80 : b ≠ 80) (hjL : h ≤ L) (hL : L < 160) (hs : seg f 0 h) (hI : ∀ q, I b q = f q) (hh : I a 2 = Int32.ofNat h) (hn : ∀ q, q < 6 → I 79 q = nm q) : ∃ I', f_X2_need N ρ I J a = some (I', evl f nm 0 h) ∧ (∀ x q, ¬ x = 80 → I' x q = I x q) := by
  obtain ⟨I', g1, g2⟩ := c_value hN (J := J) (i := 0) (j := h) (f := f) (nm := nm) ka rb kb b80 hjL hL hs hI hn
  refine ⟨I', ?_, g2⟩
  unfold f_X2_need
  rw [if_pos ka, hh]
  rw [show Int32.ofNat 0 = (0 : Int32) from rfl] at g1
  rw [g1]
  rfl
theorem c_row {N : Nat} (hN : 200 ≤ N) {ρ : Rh} {I : Nat → Nat → Int32} {J : Nat → Nat → Int64} {a b h L : Nat} {f nm : Nat → Int32} (ka : ρ.2.1 a = (0, 2)) (rb : ρ.1 a 1 = some b) (kb : ρ.2.1 b = (1, L)) (b80 : b ≠ 80) (hjL : h ≤ L) (hL : L < 160) (hs : seg f h L) (hI : ∀ q, I b q = f q) (hh : I a 2 = Int32.ofNat h) (hn : ∀ q, q < 6 → I 79 q = nm q) : ∃ I', f_X2_row N ρ I J a = some (I', evl f nm h L) ∧ (∀ x q, ¬ x = 80 → I' x q = I x q) := by
  obtain ⟨I', g1, g2⟩ := c_value hN (J := J) (i := h) (j := L) (f := f) (nm := nm) ka rb kb b80 (Nat.le_refl _) hL hs hI hn
  refine ⟨I', ?_, g2⟩
  unfold f_X2_row
  rw [if_pos ka, rb]
  simp only [Option.bind_some, kb]
  rw [if_pos trivial, hh, g1]
  rfl
theorem m_worth {N : Nat} (hN : 200 ≤ N) {ρ : Rh} {I : Nat → Nat → Int32} {J : Nat → Nat → Int64} {f nm : Nat → Int32} {p1 p2 : Int32} {part t i j : Nat} (hp1 : p1 = Int32.ofNat part) (hpart : part < 2) (ht : t < 6) (hj : j < 160) (hs : seg f i j) (h18 : I 89 18 = Int32.ofNat t) (h99 : I 99 (4 * t + part) = Int32.ofNat i) (h99' : I 99 (4 * t + part + 1) = Int32.ofNat j) (hcm : ∀ q, i ≤ q → q < j → cmR (f q) (I 98 (200 * t + q))) (hn : ∀ q, q < 6 → I 113 q = nm q) : ∃ I', f_X12_worth N ρ I J p1 p2 = some (I', cl (evl f nm i j) p2) ∧ (∀ x q, ¬ x = 112 → I' x q = I x q) := by
  obtain ⟨D, d1, d2, d3, d4⟩ := hs
  obtain ⟨I', g1, g2, g3⟩ := m_val (N := N) (ρ := ρ) (J := J) (p2 := p2) (D := D) (f := f) (nm := nm) (i := i) hp1 hpart ht hj d4 (j - i) i N I (fun _ => 0) (by omega) (by omega) (by omega) (by omega) h18 h99' hcm hn (fun q hq => absurd hq (by omega))
  refine ⟨I', ?_, g2⟩
  unfold f_X12_worth
  rw [h18, hp1, p_lin4 (by omega), if_pos (p_ixn (by omega) (by omega)), p_tnI (by omega), h99]
  simp only [bnd]
  rw [d1, hp1, show Int32.ofNat 0 = (0 : Int32) from rfl] at g1
  rw [g1]
  simp only [Option.bind_some]
  rw [g3 0 (by omega), d1]
  unfold cl evl
  by_cases q1 : 0 ≤ evs f nm (j - i) i (fun _ => 0) 0 0
  · rw [if_pos q1, if_pos q1]
    by_cases q2 : evs f nm (j - i) i (fun _ => 0) 0 0 ≤ p2
    · rw [if_pos q2, if_pos q2]
    · rw [if_neg q2, if_neg q2]
  · rw [if_neg q1, if_neg q1]
