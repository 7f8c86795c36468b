/-! ===== the pure layer: the invariant where references change ===== -/
def Grw (ρ ρ' : Rh) : Prop := ρ.2.2 ≤ ρ'.2.2 ∧ (∀ a, a < 32 + ρ.2.2 → ρ'.2.1 a = ρ.2.1 a) ∧ 83 ≤ ρ.2.2
theorem Sh.ge {ρ : Rh} (h : Sh ρ) : 83 ≤ ρ.2.2 := h.2.2.2.2.2
theorem gr_vRule1 {ρ ρ' : Rh} {I : Nat → Nat → Int32} {r a : Nat} (hG : Grw ρ ρ') (hR : 115 ≤ a → a < 32 + ρ.2.2 → ρ'.1 a 2 = ρ.1 a 2) (h : vRule1 ρ I r a) : vRule1 ρ' I r a := by
  obtain ⟨h1, h2, h3, h4, h5, h6, h7, h8, h9, h10⟩ := h
  obtain ⟨g1, g2, g3⟩ := hG
  refine ⟨h1, by omega, (g2 a (by omega)).trans h3, h4, h5, h6, h7, h8, fun z => ?_, h10⟩
  obtain ⟨z1, z2, z3, z4⟩ := h9 z
  exact ⟨(hR h1 (by omega)).trans z1, by omega, (g2 _ z2).trans z3, z4⟩
theorem gr_vRules {ρ ρ' : Rh} {I : Nat → Nat → Int32} (hG : Grw ρ ρ') (hR : ∀ a k : Nat, a = 33 ∨ (115 ≤ a ∧ a < 32 + ρ.2.2 ∧ k = 2) → ρ'.1 a k = ρ.1 a k) (h : vRules ρ I) : vRules ρ' I := by
  refine ⟨h.1, h.2.1, fun r hr => ⟨fun hl => ?_, fun hl => ?_⟩⟩
  · obtain ⟨a, h1, h2⟩ := (h.2.2 r hr).1 hl
    exact ⟨a, (hR 33 r (Or.inl rfl)).trans h1, gr_vRule1 hG (fun z1 z2 => hR a 2 (Or.inr ⟨z1, z2, rfl⟩)) h2⟩
  · exact (hR 33 r (Or.inl rfl)).trans ((h.2.2 r hr).2 hl)
theorem gr_vLaw1 {ρ ρ' : Rh} {I : Nat → Nat → Int32} {t a : Nat} (hG : Grw ρ ρ') (hR : ∀ a k : Nat, ((a = 41 ∨ 115 ≤ a) ∧ a < 32 + ρ.2.2 ∧ k = 1) → ρ'.1 a k = ρ.1 a k) (h : vLaw1 ρ I t a) : vLaw1 ρ' I t a := by
  obtain ⟨b, hh, n, h1, h2, h3, h4, h5, h6, h7, h8, h9, h10, h11, h12, h13, h14⟩ := h
  obtain ⟨g1, g2, g3⟩ := hG
  refine ⟨b, hh, n, (g2 a (by omega)).trans h1, (hR a 1 (by omega)).trans h2, h3, h4, h5, h6, h7, (g2 b (by omega)).trans h8, h9, h10, h11, h12, h13, by omega⟩
theorem gr_vLaws {ρ ρ' : Rh} {I : Nat → Nat → Int32} (hG : Grw ρ ρ') (hR : ∀ a k : Nat, a = 34 ∨ ((a = 41 ∨ 115 ≤ a) ∧ a < 32 + ρ.2.2 ∧ k = 1) → ρ'.1 a k = ρ.1 a k) (h : vLaws ρ I) : vLaws ρ' I := by
  refine ⟨h.1, h.2.1, fun t ht => ⟨fun hl => ?_, fun hl => ?_⟩⟩
  · obtain ⟨a, h1, h2⟩ := (h.2.2 t ht).1 hl
    exact ⟨a, (hR 34 t (Or.inl rfl)).trans h1, gr_vLaw1 hG (fun a k z => hR a k (Or.inr z)) h2⟩
  · exact (hR 34 t (Or.inl rfl)).trans ((h.2.2 t ht).2 hl)
theorem gr_vForce {ρ ρ' : Rh} {I : Nat → Nat → Int32} (hR : ∀ a k : Nat, a = 34 ∨ (a = 42 ∧ k = 6) → ρ'.1 a k = ρ.1 a k) (h : vForce ρ I) : vForce ρ' I := by
  obtain ⟨t, h1, h2, h3⟩ := h
  exact ⟨t, h1, h2, (hR 42 6 (by omega)).trans (h3.trans (hR 34 t (by omega)).symm)⟩
theorem gr_vImg1 {ρ ρ' : Rh} {I : Nat → Nat → Int32} {c : Nat} (hG : Grw ρ ρ') (hR : ∀ a k : Nat, a = 34 ∨ (a = c ∧ 1 ≤ k ∧ k ≤ 6) → ρ'.1 a k = ρ.1 a k) (h : vImg1 ρ I c) : vImg1 ρ' I c := by
  obtain ⟨h1, h2, ⟨k0, k1, k2, k3, k4, k5⟩, ⟨r1, r2, r3, r4, r5⟩, h5, h6, h7, h8, t, h9, h10, h11⟩ := h
  obtain ⟨g1, g2, g3⟩ := hG
  refine ⟨h1, by omega, ⟨(g2 _ (by omega)).trans k0, (g2 _ (by omega)).trans k1, (g2 _ (by omega)).trans k2, (g2 _ (by omega)).trans k3, (g2 _ (by omega)).trans k4, (g2 _ (by omega)).trans k5⟩, ⟨(hR _ _ (by omega)).trans r1, (hR _ _ (by omega)).trans r2, (hR _ _ (by omega)).trans r3, (hR _ _ (by omega)).trans r4, (hR _ _ (by omega)).trans r5⟩, h5, h6, h7, h8, t, h9, h10, (hR _ _ (by omega)).trans (h11.trans (hR _ _ (by omega)).symm)⟩
theorem gr_vImg {ρ ρ' : Rh} {I : Nat → Nat → Int32} (hG : Grw ρ ρ') (hR : ∀ a k : Nat, a = 34 ∨ (a = 32 ∧ k = 1) ∨ (115 ≤ a ∧ a < 32 + ρ.2.2 ∧ 1 ≤ k ∧ k ≤ 6) → ρ'.1 a k = ρ.1 a k) (h : vImg ρ I) : vImg ρ' I := by
  refine h.imp (fun z => ⟨(hR 32 1 (by omega)).trans z.1, z.2⟩) (fun z => ⟨z.1, ?_⟩)
  obtain ⟨c, h1, h2⟩ := z.2
  have hc := h2.1
  have hd := h2.2.1
  exact ⟨c, (hR 32 1 (by omega)).trans h1, gr_vImg1 hG (fun a k z => hR a k (by omega)) h2⟩
theorem Grw.same {ρ : Rh} (h : Sh ρ) (r : Nat → Nat → Option Nat) : Grw ρ (r, ρ.2) := ⟨Nat.le_refl _, fun _ _ => rfl, h.ge⟩
