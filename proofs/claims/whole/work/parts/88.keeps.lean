/-! ===== the pure layer: what a text leaves ===== -/
theorem tT_end {c : Nat → Nat} {sz : Nat} (hsz : sz ≤ 160) : ∀ i, 160 ≤ i → tT c sz i = -21 := by
  have key : ∀ i, i ≤ cu c sz i ∨ ¬ lb c sz (cu c sz i) < sz := by
    intro i
    induction i with
    | zero => exact .inl (Nat.zero_le _)
    | succ i ih =>
      have h1 := cu_le (c := c) (sz := sz) i
      obtain ⟨a1, a2, a3⟩ := le_bw (c := c) h1
      obtain ⟨b1, b2⟩ := lb_bw (c := c) h1
      have e : cu c sz (i + 1) = le c sz (cu c sz i) := rfl
      by_cases q : lb c sz (cu c sz i) < sz
      · have := a3 q
        rcases ih with z | z
        · left; rw [e]; omega
        · exact absurd q z
      · right
        have e2 : cu c sz (i + 1) = sz := by rw [e]; omega
        rw [e2]
        have := (lb_bw (c := c) (Nat.le_refl sz)).1
        omega
  intro i hi
  have h1 := cu_le (c := c) (sz := sz) i
  have hn : ¬ lb c sz (cu c sz i) < sz := by
    rcases key i with z | z
    · have := (lb_bw (c := c) h1).1
      omega
    · exact z
  unfold tT lk
  rw [if_neg hn]
theorem tx_vLaw1 {ρ : Rh} {I I' : Nat → Nat → Int32} {t a : Nat} (hF : ∀ b k : Nat, (b = 98 ∧ 200 * t ≤ k ∧ k < 200 * t + 200) ∨ (b = 99 ∧ 4 * t ≤ k ∧ k < 4 * t + 4) ∨ b = 40 ∨ b = 41 ∨ (115 ≤ a ∧ a + 1 < 32 + ρ.2.2 ∧ (b = a ∨ b = a + 1)) → I' b k = I b k) (h : vLaw1 ρ I t a) : vLaw1 ρ I' t a := by
  obtain ⟨b, hh, n, h1, h2, h3, h4, h5, h6, h7, h8, h9, h10, h11, h12, h13, h14⟩ := h
  have v2 : ∀ k : Nat, I' a k = I a k := fun k => hF _ _ (by omega)
  have v3 : I' b = I b := funext fun k => hF _ _ (by omega)
  refine ⟨b, hh, n, h1, h2, ?_, ?_, ?_, ?_, ?_, h8, h9, h10, ?_, ?_, ?_, h14⟩
  · rw [v2]; exact h3
  · rw [v2]; exact h4
  · rw [hF 99 _ (by omega)]; exact h5
  · rw [hF 99 _ (by omega)]; exact h6
  · rw [hF 99 _ (by omega)]; exact h7
  · intro k hk; rw [v3, hF 98 _ (by omega)]; exact h11 k hk
  · rw [v3]; exact h12
  · rw [v3]; exact h13
theorem tx_vRules {ρ : Rh} {I I' : Nat → Nat → Int32} (g83 : 83 ≤ ρ.2.2) (FI : ∀ b k : Nat, (b = 32 ∧ k = 3) ∨ (b = 89 ∧ k = 9) ∨ b = 94 ∨ b = 95 ∨ b = 96 ∨ (115 ≤ b ∧ b < 32 + ρ.2.2) → I' b k = I b k) (hr : vRules ρ I) : vRules ρ I' := by
  refine ⟨?_, ?_, fun r hr8 => ⟨fun hlt => ?_, fun hge => ?_⟩⟩
  · rw [FI 32 3 (by omega), FI 89 9 (by omega)]; exact hr.1
  · rw [FI 89 9 (by omega)]; exact hr.2.1
  · rw [FI 89 9 (by omega)] at hlt
    obtain ⟨b, h1, h2⟩ := (hr.2.2 r hr8).1 hlt
    refine ⟨b, h1, ?_⟩
    obtain ⟨a1, a2, a3, a4, a5, a6, a7, a8, a9, a10⟩ := h2
    have v0 : ∀ k : Nat, I' 94 k = I 94 k := fun k => FI _ _ (by omega)
    have v1 : ∀ k : Nat, I' 95 k = I 95 k := fun k => FI _ _ (by omega)
    have v2 : ∀ k : Nat, I' 96 k = I 96 k := fun k => FI _ _ (by omega)
    have v3 : ∀ k : Nat, I' b k = I b k := fun k => FI _ _ (by omega)
    unfold vRule1
    simp only [v0, v1, v2, v3]
    refine ⟨a1, a2, a3, a4, a5, a6, a7, a8, fun z => ?_, a10⟩
    obtain ⟨z1, z2, z3, z4⟩ := a9 z
    exact ⟨z1, z2, z3, fun m hm => (FI _ _ (by omega)).trans (z4 m hm)⟩
  · rw [FI 89 9 (by omega)] at hge
    exact (hr.2.2 r hr8).2 hge
theorem tx_vImg {ρ ρ' : Rh} {I I' : Nat → Nat → Int32} {t : Nat} (hG : Grw ρ ρ') (hR : ∀ b k : Nat, b < 32 + ρ.2.2 → ¬ (b = 34 ∧ k = t) → ρ'.1 b k = ρ.1 b k) (h17 : (I 89 17).toInt = t) (h17' : (I 89 17).toInt ≤ (I' 89 17).toInt) (hF : ∀ b k : Nat, (b = 89 ∧ 24 ≤ k ∧ k ≤ 30) ∨ b = 104 ∨ b = 105 ∨ b = 106 ∨ (115 ≤ b ∧ b < 32 + ρ.2.2) → I' b k = I b k) (h : vImg ρ I) : vImg ρ' I' := by
  obtain ⟨g1, g2, g3⟩ := hG
  have e1 : I' 89 24 = I 89 24 := hF 89 24 (by omega)
  rcases h with ⟨z1, z2⟩ | ⟨z1, c, h1, h2⟩
  · exact .inl ⟨(hR 32 1 (by omega) (by omega)).trans z1, e1.trans z2⟩
  · refine .inr ⟨e1.trans z1, c, (hR 32 1 (by omega) (by omega)).trans h1, ?_⟩
    obtain ⟨c1, c2, ⟨k0, k1, k2, k3, k4, k5⟩, ⟨r1, r2, r3, r4, r5⟩, h5, h6, h7, h8, t', h9, h10, h11⟩ := h2
    have e2 : I' 89 25 = I 89 25 := hF 89 25 (by omega)
    have e3 : I' 89 26 = I 89 26 := hF 89 26 (by omega)
    have e4 : I' 89 27 = I 89 27 := hF 89 27 (by omega)
    have e5 : I' 89 28 = I 89 28 := hF 89 28 (by omega)
    have e6 : I' 89 29 = I 89 29 := hF 89 29 (by omega)
    have e7 : I' 89 30 = I 89 30 := hF 89 30 (by omega)
    have v0 : ∀ k : Nat, I' 104 k = I 104 k := fun k => hF _ _ (by omega)
    have v1 : ∀ k : Nat, I' 105 k = I 105 k := fun k => hF _ _ (by omega)
    have v2 : ∀ k : Nat, I' 106 k = I 106 k := fun k => hF _ _ (by omega)
    have w0 : ∀ k : Nat, I' c k = I c k := fun k => hF _ _ (by omega)
    have w1 : ∀ k : Nat, I' (c + 1) k = I (c + 1) k := fun k => hF _ _ (by omega)
    have w3 : ∀ k : Nat, I' (c + 3) k = I (c + 3) k := fun k => hF _ _ (by omega)
    have w4 : ∀ k : Nat, I' (c + 4) k = I (c + 4) k := fun k => hF _ _ (by omega)
    have w5 : ∀ k : Nat, I' (c + 5) k = I (c + 5) k := fun k => hF _ _ (by omega)
    unfold vImg1
    simp only [e2, e3, e4, e5, e6, e7, v0, v1, v2, w0, w1, w3, w4, w5]
    exact ⟨c1, by omega, ⟨(g2 _ (by omega)).trans k0, (g2 _ (by omega)).trans k1, (g2 _ (by omega)).trans k2, (g2 _ (by omega)).trans k3, (g2 _ (by omega)).trans k4, (g2 _ (by omega)).trans k5⟩, ⟨(hR _ _ (by omega) (by omega)).trans r1, (hR _ _ (by omega) (by omega)).trans r2, (hR _ _ (by omega) (by omega)).trans r3, (hR _ _ (by omega) (by omega)).trans r4, (hR _ _ (by omega) (by omega)).trans r5⟩, h5, h6, h7, h8, t', by omega, h10, (hR _ _ (by omega) (by omega)).trans (h11.trans (hR _ _ (by omega) (by omega)).symm)⟩
theorem tx_inv {ρ ρ' : Rh} {I I' : Nat → Nat → Int32} {J J' : Nat → Nat → Int64} {t : Nat} (h : Inv ρ I J) (e17 : (I 89 17).toInt = t) (sh' : Sh ρ') (G : Grw ρ ρ') (hR : ∀ b k : Nat, b < 32 + ρ.2.2 → ¬ (b = 34 ∧ k = t) → ρ'.1 b k = ρ.1 b k)
    (hF : ∀ b k : Nat, b < 32 + ρ.2.2 → ¬ ((b = 32 ∧ k = 5) ∨ b = 35 ∨ b = 37 ∨ (b = 89 ∧ (k = 14 ∨ k = 17 ∨ 37 ≤ k)) ∨ b = 111 ∨ (b = 98 ∧ 200 * t ≤ k ∧ k < 200 * t + 200) ∨ (b = 99 ∧ 4 * t ≤ k ∧ k ≤ 4 * t + 2)) → I' b k = I b k)
    (h35 : I' 35 1 = 0) (h14 : I' 89 14 = 0) (hJ : ∀ k : Nat, J' 110 k = J 110 k) (hL : I' 32 5 = I' 89 17)
    (hN : (I' 89 17 = I 89 17 ∧ ρ'.1 34 t = ρ.1 34 t) ∨ (t < 6 ∧ (I' 89 17).toInt = t + 1 ∧ ∃ a, ρ'.1 34 t = some a ∧ vLaw1 ρ' I' t a)) : Inv ρ' I' J' := by
  obtain ⟨_, hm, ht, hd, hp, hs, hr, hl, hf, hi, hw⟩ := id h
  have g83 := G.2.2
  have le17 : (I 89 17).toInt ≤ (I' 89 17).toInt := by
    rcases hN with z | z
    · rw [z.1]; exact Int.le_refl _
    · omega
  refine ⟨sh', fr_vMen (fun b k z => hF b k (by omega) (by omega)) hm, fr_vTold (fun b k z => hF b k (by omega) (by omega)) ht, fr_vDays (fun b k z => hF b k (by omega) (by omega)) hd, ⟨h35.trans h14.symm, by rw [h14]; exact ⟨by decide, by decide⟩, fun k hk => ?_⟩, fr_vSheet (fun b k z => hF b k (by omega) (by omega)) hs, gr_vRules G (fun b k z => hR b k (by omega) (by omega)) (tx_vRules g83 (fun b k z => hF b k (by omega) (by omega)) hr), ⟨hL, ?_, fun q hq => ⟨fun hlt => ?_, fun hge => ?_⟩⟩, ?_, tx_vImg G hR e17 le17 (fun b k z => hF b k (by omega) (by omega)) hi, fun k hk => (hJ k).trans (hw k hk)⟩
  · rw [hF 36 k (by omega) (by omega), hF 97 k (by omega) (by omega)]
    exact hp.2.2 k hk
  · have := hl.2.1
    rcases hN with z | z
    · rw [z.1]; exact this
    · unfold bw at this ⊢; omega
  · by_cases qt : q < t
    · obtain ⟨a, a1, a2⟩ := (hl.2.2 q hq).1 (by omega)
      refine ⟨a, (hR 34 q (by omega) (by omega)).trans a1, tx_vLaw1 (ρ := ρ') (fun b k z => ?_) (gr_vLaw1 G (fun b k z => hR b k (by omega) (by omega)) a2)⟩
      obtain ⟨b', hh, n, b1, b2, b3, b4, b5, b6, b7, b8, b9, b10, b11, b12, b13, b14⟩ := a2
      exact hF b k (by omega) (by omega)
    · rcases hN with z | ⟨z1, z2, z3⟩
      · rw [z.1] at hlt; omega
      · have : q = t := by omega
        rw [this]
        exact z3
  · by_cases qt : q = t
    · rcases hN with z | ⟨z1, z2, z3⟩
      · rw [qt, z.2, ← qt]
        exact (hl.2.2 q hq).2 (by omega)
      · omega
    · exact (hR 34 q (by omega) (by omega)).trans ((hl.2.2 q hq).2 (by omega))
  · obtain ⟨q, q1, q2, q3⟩ := hf
    refine ⟨q, by omega, (hF 89 18 (by omega) (by omega)).trans q2, ?_⟩
    rw [hR 42 6 (by omega) (by omega), hR 34 q (by omega) (by omega)]
    exact q3
