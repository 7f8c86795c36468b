/-! ===== the pure layer: the invariant ===== -/
def bw (x : Int32) (l h : Int) : Prop := l ≤ x.toInt ∧ x.toInt ≤ h
def vMen (I : Nat → Nat → Int32) : Prop := I 42 0 = I 89 0 ∧ bw (I 89 0) 0 8 ∧ (∀ k : Nat, k < 8 → I 43 k = I 90 k ∧ I 44 k = I 91 k) ∧ (∀ k : Nat, (k : Int) < (I 89 0).toInt → bw (I 90 k) 1 99 ∧ bw (I 91 k) 0 9) ∧ (I 89 24 = 1 → (I 89 25).toInt ≤ (I 89 0).toInt)
def vTold (I : Nat → Nat → Int32) : Prop := I 45 0 = I 89 3 ∧ I 45 1 = I 89 4 ∧ I 45 2 = I 89 5 ∧ I 45 3 = I 89 6 ∧ bw (I 89 3) 1 12 ∧ bw (I 89 4) 0 999 ∧ bw (I 89 5) 0 99 ∧ bw (I 89 6) 0 9999
def vDays (I : Nat → Nat → Int32) : Prop := ∀ k : Nat, k < 12 → I 46 k = I 92 k ∧ I 47 k = I 93 k ∧ bw (I 92 k) 0 9 ∧ bw (I 93 k) 0 50
def vTape (I : Nat → Nat → Int32) : Prop := I 35 1 = I 89 14 ∧ bw (I 89 14) 0 160 ∧ ∀ k : Nat, k < 160 → I 36 k = (I 97 k).toInt8.toInt32 ∧ bw (I 97 k) 0 255
def vSheet (I : Nat → Nat → Int32) : Prop := ∀ s : Nat, s < 4 → I (81 + 2 * s) 0 = I 107 s ∧ I (81 + 2 * s) 1 = I 108 s ∧ bw (I 107 s) (-1) 2 ∧ bw (I 108 s) 0 40 ∧ ((I 107 s).toInt = -1 → (I 108 s).toInt = 0) ∧ ∀ k : Nat, k < 40 → I (82 + 2 * s) k = I 109 (40 * s + k)
def kcl (k : Int32) : Nat := if k = 1 then 5 else if k = 2 then 4 else if k = 3 then 3 else if k = 4 then 9 else if k = 5 then 1 else 6
def vRule1 (ρ : Rh) (I : Nat → Nat → Int32) (r a : Nat) : Prop := 115 ≤ a ∧ a + 1 < 33 + ρ.2.2 ∧ ρ.2.1 a = (0, kcl (I 94 r)) ∧ I a 0 = I 94 r ∧ I a 1 = I 95 r ∧ bw (I 94 r) 0 5 ∧ bw (I 95 r) 0 99 ∧ (∀ m : Nat, m < 8 → bw (I 96 (8 * r + m)) 0 50) ∧ (I 94 r = 4 → ρ.1 a 2 = some (a + 1) ∧ a + 1 < 32 + ρ.2.2 ∧ ρ.2.1 (a + 1) = (1, 8) ∧ ∀ m : Nat, m < 8 → I (a + 1) m = I 96 (8 * r + m)) ∧ (¬ I 94 r = 4 → ∀ m : Nat, m < 8 → I 96 (8 * r + m) = 0)
def vRules (ρ : Rh) (I : Nat → Nat → Int32) : Prop := I 32 3 = I 89 9 ∧ bw (I 89 9) 0 8 ∧ ∀ r : Nat, r < 8 → ((r : Int) < (I 89 9).toInt → ∃ a, ρ.1 33 r = some a ∧ vRule1 ρ I r a) ∧ ((I 89 9).toInt ≤ r → ρ.1 33 r = none)
/-- a code of the class and the model's -/
def cmR (c m : Int32) : Prop := (bw c 0 9999 ∧ m.toInt = 100000 + c.toInt) ∨ (bw c (-6) (-1) ∧ m.toInt = -1 - c.toInt) ∨ (c.toInt = -7 ∧ m.toInt = 19) ∨ (c.toInt = -8 ∧ m.toInt = 13) ∨ (c.toInt = -9 ∧ m.toInt = 11) ∨ (c.toInt = -10 ∧ m.toInt = 12) ∨ (bw c (-15) (-11) ∧ m.toInt = 3 - c.toInt)
/-- what a code does to the stack's depth -/
def dpR (c : Int32) (d e : Nat) : Prop := (-6 ≤ c.toInt ∧ e = d + 1) ∨ (bw c (-8) (-7) ∧ 1 ≤ d ∧ e = d) ∨ (bw c (-15) (-9) ∧ 2 ≤ d ∧ e + 1 = d)
/-- the codes from i to j leave one value more -/
def seg (f : Nat → Int32) (i j : Nat) : Prop := ∃ D : Nat → Nat, D i = 0 ∧ D j = 1 ∧ i < j ∧ ∀ k, i ≤ k → k < j → dpR (f k) (D k) (D (k + 1))
def vLaw1 (ρ : Rh) (I : Nat → Nat → Int32) (t a : Nat) : Prop := ∃ b h n : Nat, ρ.2.1 a = (0, 2) ∧ ρ.1 a 1 = some b ∧ I a 0 = Int32.ofNat t ∧ I a 2 = Int32.ofNat h ∧ I 99 (4 * t) = 0 ∧ I 99 (4 * t + 1) = Int32.ofNat h ∧ I 99 (4 * t + 2) = Int32.ofNat n ∧ ρ.2.1 b = (1, n) ∧ h ≤ n ∧ n < 160 ∧ (∀ k, k < n → cmR (I b k) (I 98 (200 * t + k))) ∧ seg (I b) 0 h ∧ seg (I b) h n ∧ ((a = 41 ∧ b = 40) ∨ (115 ≤ a ∧ b = a + 1 ∧ b < 32 + ρ.2.2))
def vLaws (ρ : Rh) (I : Nat → Nat → Int32) : Prop := I 32 5 = I 89 17 ∧ bw (I 89 17) 1 6 ∧ ∀ t : Nat, t < 6 → ((t : Int) < (I 89 17).toInt → ∃ a, ρ.1 34 t = some a ∧ vLaw1 ρ I t a) ∧ ((I 89 17).toInt ≤ t → ρ.1 34 t = none)
def vForce (ρ : Rh) (I : Nat → Nat → Int32) : Prop := ∃ t : Nat, (t : Int) < (I 89 17).toInt ∧ I 89 18 = Int32.ofNat t ∧ ρ.1 42 6 = ρ.1 34 t
def vImg1 (ρ : Rh) (I : Nat → Nat → Int32) (c : Nat) : Prop := 115 ≤ c ∧ c + 5 < 32 + ρ.2.2 ∧ (ρ.2.1 c = (0, 0) ∧ ρ.2.1 (c + 1) = (1, 8) ∧ ρ.2.1 (c + 2) = (1, 8) ∧ ρ.2.1 (c + 3) = (1, 4) ∧ ρ.2.1 (c + 4) = (1, 12) ∧ ρ.2.1 (c + 5) = (1, 12)) ∧ (ρ.1 c 1 = some (c + 1) ∧ ρ.1 c 2 = some (c + 2) ∧ ρ.1 c 3 = some (c + 3) ∧ ρ.1 c 4 = some (c + 4) ∧ ρ.1 c 5 = some (c + 5)) ∧ (I c 0 = I 89 25 ∧ 0 ≤ (I 89 25).toInt ∧ (I 89 25).toInt ≤ 8) ∧ (∀ k : Nat, (k : Int) < (I 89 25).toInt → I (c + 1) k = I 104 k ∧ bw (I 104 k) 1 99) ∧ (I (c + 3) 0 = I 89 26 ∧ I (c + 3) 1 = I 89 27 ∧ I (c + 3) 2 = I 89 28 ∧ I (c + 3) 3 = I 89 29 ∧ bw (I 89 26) 1 12 ∧ bw (I 89 27) 0 999 ∧ bw (I 89 28) 0 99 ∧ bw (I 89 29) 0 9999) ∧ (∀ k : Nat, k < 12 → I (c + 4) k = I 105 k ∧ I (c + 5) k = I 106 k ∧ bw (I 105 k) 0 9 ∧ bw (I 106 k) 0 50) ∧ ∃ t : Nat, (t : Int) < (I 89 17).toInt ∧ I 89 30 = Int32.ofNat t ∧ ρ.1 c 6 = ρ.1 34 t
def vImg (ρ : Rh) (I : Nat → Nat → Int32) : Prop := (ρ.1 32 1 = none ∧ I 89 24 = 0) ∨ (I 89 24 = 1 ∧ ∃ c, ρ.1 32 1 = some c ∧ vImg1 ρ I c)
def wdJ (k : Nat) : Int64 := if k = 0 then 1852138852 else if k = 1 then 7499639 else if k = 2 then 495874699877 else if k = 3 then 1919907699 else if k = 4 then 6578553 else if k = 5 then 495672455781 else if k = 6 then 418430678629 else if k = 7 then 1836020325 else if k = 8 then 28530 else if k = 9 then 6385252 else 7237492
def vWords (J : Nat → Nat → Int64) : Prop := ∀ k, k < 11 → J 110 k = wdJ k
def Inv (ρ : Rh) (I : Nat → Nat → Int32) (J : Nat → Nat → Int64) : Prop := Sh ρ ∧ vMen I ∧ vTold I ∧ vDays I ∧ vTape I ∧ vSheet I ∧ vRules ρ I ∧ vLaws ρ I ∧ vForce ρ I ∧ vImg ρ I ∧ vWords J
theorem u2_fr {α : Type} {f : Nat → Nat → α} {a k b j : Nat} {x : α} (h : b ≠ a ∨ j ≠ k) : u2 f a k x b j = f b j := by
  rw [u2_ap]
  by_cases h1 : b = a
  · rw [if_pos h1, if_neg (h.resolve_left (fun z => z h1))]
  · rw [if_neg h1]
theorem u2_at {α : Type} {f : Nat → Nat → α} {a k : Nat} {x : α} : u2 f a k x a k = x := by
  rw [u2_ap, if_pos rfl, if_pos rfl]
theorem fr_vMen {I I' : Nat → Nat → Int32} (hF : ∀ a k : Nat, (a = 42 ∧ k = 0) ∨ (a = 89 ∧ (k = 0 ∨ k = 24 ∨ k = 25)) ∨ a = 43 ∨ a = 44 ∨ a = 90 ∨ a = 91 → I' a k = I a k) (h : vMen I) : vMen I' := by
  have e0 : I' 42 0 = I 42 0 := hF 42 0 (by omega)
  have e1 : I' 89 0 = I 89 0 := hF 89 0 (by omega)
  have e2 : I' 89 24 = I 89 24 := hF 89 24 (by omega)
  have e3 : I' 89 25 = I 89 25 := hF 89 25 (by omega)
  have v0 : ∀ k : Nat, I' 43 k = I 43 k := fun k => hF _ _ (by omega)
  have v1 : ∀ k : Nat, I' 44 k = I 44 k := fun k => hF _ _ (by omega)
  have v2 : ∀ k : Nat, I' 90 k = I 90 k := fun k => hF _ _ (by omega)
  have v3 : ∀ k : Nat, I' 91 k = I 91 k := fun k => hF _ _ (by omega)
  unfold vMen at h ⊢
  simp only [e0, e1, e2, e3, v0, v1, v2, v3]
  exact h
theorem fr_vTold {I I' : Nat → Nat → Int32} (hF : ∀ a k : Nat, a = 45 ∨ (a = 89 ∧ (k = 3 ∨ k = 4 ∨ k = 5 ∨ k = 6)) → I' a k = I a k) (h : vTold I) : vTold I' := by
  have e0 : I' 45 0 = I 45 0 := hF 45 0 (by omega)
  have e1 : I' 45 1 = I 45 1 := hF 45 1 (by omega)
  have e2 : I' 45 2 = I 45 2 := hF 45 2 (by omega)
  have e3 : I' 45 3 = I 45 3 := hF 45 3 (by omega)
  have e4 : I' 89 3 = I 89 3 := hF 89 3 (by omega)
  have e5 : I' 89 4 = I 89 4 := hF 89 4 (by omega)
  have e6 : I' 89 5 = I 89 5 := hF 89 5 (by omega)
  have e7 : I' 89 6 = I 89 6 := hF 89 6 (by omega)
  unfold vTold at h ⊢
  simp only [e0, e1, e2, e3, e4, e5, e6, e7]
  exact h
theorem fr_vDays {I I' : Nat → Nat → Int32} (hF : ∀ a k : Nat, a = 46 ∨ a = 47 ∨ a = 92 ∨ a = 93 → I' a k = I a k) (h : vDays I) : vDays I' := by
  have v0 : ∀ k : Nat, I' 46 k = I 46 k := fun k => hF _ _ (by omega)
  have v1 : ∀ k : Nat, I' 47 k = I 47 k := fun k => hF _ _ (by omega)
  have v2 : ∀ k : Nat, I' 92 k = I 92 k := fun k => hF _ _ (by omega)
  have v3 : ∀ k : Nat, I' 93 k = I 93 k := fun k => hF _ _ (by omega)
  unfold vDays at h ⊢
  simp only [v0, v1, v2, v3]
  exact h
theorem fr_vTape {I I' : Nat → Nat → Int32} (hF : ∀ a k : Nat, (a = 35 ∧ k = 1) ∨ (a = 89 ∧ k = 14) ∨ a = 36 ∨ a = 97 → I' a k = I a k) (h : vTape I) : vTape I' := by
  have e0 : I' 35 1 = I 35 1 := hF 35 1 (by omega)
  have e1 : I' 89 14 = I 89 14 := hF 89 14 (by omega)
  have v0 : ∀ k : Nat, I' 36 k = I 36 k := fun k => hF _ _ (by omega)
  have v1 : ∀ k : Nat, I' 97 k = I 97 k := fun k => hF _ _ (by omega)
  unfold vTape at h ⊢
  simp only [e0, e1, v0, v1]
  exact h
theorem fr_vSheet {I I' : Nat → Nat → Int32} (hF : ∀ a k : Nat, (81 ≤ a ∧ a ≤ 88) ∨ a = 107 ∨ a = 108 ∨ a = 109 → I' a k = I a k) (h : vSheet I) : vSheet I' := by
  have v0 : ∀ k : Nat, I' 107 k = I 107 k := fun k => hF _ _ (by omega)
  have v1 : ∀ k : Nat, I' 108 k = I 108 k := fun k => hF _ _ (by omega)
  have v2 : ∀ k : Nat, I' 109 k = I 109 k := fun k => hF _ _ (by omega)
  intro s hs
  have h1 := h s hs
  have w0 : I' (81 + 2 * s) 0 = I (81 + 2 * s) 0 := hF _ _ (by omega)
  have w1 : I' (81 + 2 * s) 1 = I (81 + 2 * s) 1 := hF _ _ (by omega)
  have w2 : ∀ k, I' (82 + 2 * s) k = I (82 + 2 * s) k := fun k => hF _ _ (by omega)
  simp only [v0, v1, v2, w0, w1, w2]
  exact h1
theorem fr_vRule1 {ρ : Rh} {I I' : Nat → Nat → Int32} {r a : Nat} (hF : ∀ b k : Nat, b = 94 ∨ b = 95 ∨ b = 96 ∨ b = a ∨ b = a + 1 → I' b k = I b k) (h : vRule1 ρ I r a) : vRule1 ρ I' r a := by
  have v0 : ∀ k : Nat, I' 94 k = I 94 k := fun k => hF _ _ (by omega)
  have v1 : ∀ k : Nat, I' 95 k = I 95 k := fun k => hF _ _ (by omega)
  have v2 : ∀ k : Nat, I' 96 k = I 96 k := fun k => hF _ _ (by omega)
  have v3 : ∀ k : Nat, I' a k = I a k := fun k => hF _ _ (by omega)
  have v4 : ∀ k : Nat, I' (a + 1) k = I (a + 1) k := fun k => hF _ _ (by omega)
  unfold vRule1 at h ⊢
  simp only [v0, v1, v2, v3, v4]
  exact h
theorem fr_vRules {ρ : Rh} {I I' : Nat → Nat → Int32} (hF : ∀ a k : Nat, (a = 32 ∧ k = 3) ∨ (a = 89 ∧ k = 9) ∨ a = 94 ∨ a = 95 ∨ a = 96 ∨ 115 ≤ a → I' a k = I a k) (h : vRules ρ I) : vRules ρ I' := by
  have e0 : I' 32 3 = I 32 3 := hF 32 3 (by omega)
  have e1 : I' 89 9 = I 89 9 := hF 89 9 (by omega)
  unfold vRules at h ⊢
  rw [e0, e1]
  refine ⟨h.1, h.2.1, fun r hr => ⟨fun hl => ?_, (h.2.2 r hr).2⟩⟩
  obtain ⟨a, h1, h2⟩ := (h.2.2 r hr).1 hl
  have ha := h2.1
  exact ⟨a, h1, fr_vRule1 (fun b k hb => hF b k (by omega)) h2⟩
theorem fr_vLaw1 {ρ : Rh} {I I' : Nat → Nat → Int32} {t a : Nat} (hF : ∀ b k : Nat, b = 98 ∨ b = 99 ∨ b = 40 ∨ b = 41 ∨ (115 ≤ a ∧ (b = a ∨ b = a + 1)) → I' b k = I b k) (h : vLaw1 ρ I t a) : vLaw1 ρ I' t a := by
  obtain ⟨b, hh, n, h1, h2, h3, h4, h5, h6, h7, h8, h9, h10, h11, h12, h13, h14⟩ := h
  have v0 : ∀ k : Nat, I' 98 k = I 98 k := fun k => hF _ _ (by omega)
  have v1 : ∀ k : Nat, I' 99 k = I 99 k := fun k => hF _ _ (by omega)
  have v2 : ∀ k : Nat, I' a k = I a k := fun k => hF _ _ (by omega)
  have v3 : I' b = I b := funext fun k => hF _ _ (by omega)
  refine ⟨b, hh, n, h1, h2, ?_, ?_, ?_, ?_, ?_, h8, h9, h10, ?_, ?_, ?_, h14⟩
  · rw [v2]; exact h3
  · rw [v2]; exact h4
  · rw [v1]; exact h5
  · rw [v1]; exact h6
  · rw [v1]; exact h7
  · intro k hk; rw [v3, v0]; exact h11 k hk
  · rw [v3]; exact h12
  · rw [v3]; exact h13
theorem fr_vLaws {ρ : Rh} {I I' : Nat → Nat → Int32} (hF : ∀ a k : Nat, (a = 32 ∧ k = 5) ∨ (a = 89 ∧ k = 17) ∨ a = 98 ∨ a = 99 ∨ a = 40 ∨ a = 41 ∨ 115 ≤ a → I' a k = I a k) (h : vLaws ρ I) : vLaws ρ I' := by
  have e0 : I' 32 5 = I 32 5 := hF 32 5 (by omega)
  have e1 : I' 89 17 = I 89 17 := hF 89 17 (by omega)
  unfold vLaws at h ⊢
  rw [e0, e1]
  refine ⟨h.1, h.2.1, fun t ht => ⟨fun hl => ?_, (h.2.2 t ht).2⟩⟩
  obtain ⟨a, h1, h2⟩ := (h.2.2 t ht).1 hl
  exact ⟨a, h1, fr_vLaw1 (fun b k hb => hF b k (by omega)) h2⟩
theorem fr_vForce {ρ : Rh} {I I' : Nat → Nat → Int32} (hF : ∀ a k : Nat, a = 89 ∧ (k = 17 ∨ k = 18) → I' a k = I a k) (h : vForce ρ I) : vForce ρ I' := by
  have e0 : I' 89 17 = I 89 17 := hF 89 17 (by omega)
  have e1 : I' 89 18 = I 89 18 := hF 89 18 (by omega)
  unfold vForce at h ⊢
  rw [e0, e1]
  exact h
theorem fr_vImg1 {ρ : Rh} {I I' : Nat → Nat → Int32} {c : Nat} (hF : ∀ a k : Nat, (a = 89 ∧ (k = 17 ∨ (24 ≤ k ∧ k ≤ 30))) ∨ a = 104 ∨ a = 105 ∨ a = 106 ∨ (c ≤ a ∧ a ≤ c + 5) → I' a k = I a k) (h : vImg1 ρ I c) : vImg1 ρ I' c := by
  have e0 : I' 89 17 = I 89 17 := hF 89 17 (by omega)
  have e1 : I' 89 24 = I 89 24 := hF 89 24 (by omega)
  have e2 : I' 89 25 = I 89 25 := hF 89 25 (by omega)
  have e3 : I' 89 26 = I 89 26 := hF 89 26 (by omega)
  have e4 : I' 89 27 = I 89 27 := hF 89 27 (by omega)
  have e5 : I' 89 28 = I 89 28 := hF 89 28 (by omega)
  have e6 : I' 89 29 = I 89 29 := hF 89 29 (by omega)
  have e7 : I' 89 30 = I 89 30 := hF 89 30 (by omega)
  have v0 : ∀ k : Nat, I' 104 k = I 104 k := fun k => hF _ _ (by omega)
  have v1 : ∀ k : Nat, I' 105 k = I 105 k := fun k => hF _ _ (by omega)
  have v2 : ∀ k : Nat, I' 106 k = I 106 k := fun k => hF _ _ (by omega)
  have w0 : ∀ k : Nat, I' c k = I c k := fun k => hF _ _ (by omega)
  have w1 : ∀ k : Nat, I' (c + 1) k = I (c + 1) k := fun k => hF _ _ (by omega)
  have w3 : ∀ k : Nat, I' (c + 3) k = I (c + 3) k := fun k => hF _ _ (by omega)
  have w4 : ∀ k : Nat, I' (c + 4) k = I (c + 4) k := fun k => hF _ _ (by omega)
  have w5 : ∀ k : Nat, I' (c + 5) k = I (c + 5) k := fun k => hF _ _ (by omega)
  unfold vImg1 at h ⊢
  simp only [e0, e1, e2, e3, e4, e5, e6, e7, v0, v1, v2, w0, w1, w3, w4, w5]
  exact h
theorem fr_vImg {ρ : Rh} {I I' : Nat → Nat → Int32} (hF : ∀ a k : Nat, (a = 89 ∧ (k = 17 ∨ (24 ≤ k ∧ k ≤ 30))) ∨ a = 104 ∨ a = 105 ∨ a = 106 ∨ 115 ≤ a → I' a k = I a k) (h : vImg ρ I) : vImg ρ I' := by
  have e0 : I' 89 24 = I 89 24 := hF 89 24 (by omega)
  unfold vImg at h ⊢
  rw [e0]
  refine h.imp id fun z => ⟨z.1, ?_⟩
  obtain ⟨c, h1, h2⟩ := z.2
  have hc := h2.1
  exact ⟨c, h1, fr_vImg1 (fun b k hb => hF b k (by omega)) h2⟩
