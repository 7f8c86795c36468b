/-! ===== the pure layer: the calls image and back ===== -/
theorem law_at {ρ : Rh} {I : Nat → Nat → Int32} (hl : vLaws ρ I) {t : Nat} (ht : (t : Int) < (I 89 17).toInt) : ∃ a, ρ.1 34 t = some a ∧ vLaw1 ρ I t a := by
  obtain ⟨l1, l2, l3⟩ := hl
  unfold bw at l2
  exact (l3 t (by omega)).1 ht
theorem op_back {ρ : Rh} {I : Nat → Nat → Int32} {J : Nat → Nat → Int64} (N : Nat) (h : Inv ρ I J) (hN : 200 ≤ N) : ∃ I1 ρ1 r I2, f_X11_back N ρ I J = some (I1, ρ1, r) ∧ f_X12_back N ρ1 I1 J = some (I2, r) ∧ Inv ρ1 I2 J := by
  obtain ⟨sh, hm, ht, hd, hp, hs, hr, hl, hf, hi, hw⟩ := id h
  rcases id hi with ⟨z1, z2⟩ | ⟨z1, c, z2, z3⟩
  · refine ⟨I, ρ, -3, I, ?_, ?_, h⟩
    · unfold f_X11_back
      simp only [bnd, z1, ocase_no]
    · unfold f_X12_back
      rw [if_pos z2]
  · obtain ⟨c1, c2, ⟨kc0, kc1, kc2, kc3, kc4, kc5⟩, ⟨rc1, rc2, rc3, rc4, rc5⟩, ⟨e0, e1, e2⟩, e3, ⟨t0, t1, t2, t3, t4, t5, t6, t7⟩, e5, t, ht1, ht2, ht3⟩ := z3
    obtain ⟨l, hl1, hl2⟩ := law_at hl ht1
    have tt := p_tnc (I 89 25) e1
    have hcap := hm.2.2.2.2 z1
    obtain ⟨m1, m2, m3, m4, m5⟩ := id hm
    unfold bw at m2
    obtain ⟨I1, g1, g2, g3, g4, g5, g6⟩ := keep_gen (I := I) (J := J) N (p := 42) (q := c) (p1 := 43) (p3 := 45) (p4 := 46) (p5 := 47) (n := tn (I 89 25)) sh.k42 kc0 sh.r42_1 sh.r42_3 sh.r42_4 sh.r42_5 rc1 rc3 rc4 rc5 sh.k43 sh.k45 sh.k46 sh.k47 kc1 kc3 kc4 kc5 (by rw [e0]; exact e1) (by rw [e0]) (by omega) (ht3.trans hl1) (by omega) ⟨by omega, by omega, by omega, by omega, by omega, by omega⟩ ⟨by omega, by omega, by omega, by omega⟩ (by omega)
    have w : ∀ b k, ¬ b = 43 → ¬ b = 45 → ¬ b = 46 → ¬ b = 47 → I1 b k = I b k := g2
    obtain ⟨K1, f1, f2, f3⟩ := m_bk8 (N := N) (J := J) (ρ := (u2 ρ.1 42 6 (some l), ρ.2)) (n := tn (I 89 25)) (by omega) (tn (I 89 25)) 0 N (u2 (u2 (u2 (u2 (u2 I1 89 3 (I1 89 26)) 89 4 (I1 89 27)) 89 5 (I1 89 28)) 89 6 (I1 89 29)) 89 18 (I1 89 30)) (by omega) (by omega) (by rw [u2_fr (by omega), u2_fr (by omega), u2_fr (by omega), u2_fr (by omega), u2_fr (by omega), w 89 25 (by omega) (by omega) (by omega) (by omega)]; exact (p_tnb e1).symm)
    obtain ⟨K2, f4, f5, f6, f7⟩ := m_bk12 (N := N) (J := J) (ρ := (u2 ρ.1 42 6 (some l), ρ.2)) 12 0 N K1 (by omega) (by omega)
    have A : ∀ b k, ¬ b = 43 → ¬ b = 45 → ¬ b = 46 → ¬ b = 47 → ¬ b = 90 → ¬ b = 92 → ¬ b = 93 → ¬ (b = 89 ∧ (k = 3 ∨ k = 4 ∨ k = 5 ∨ k = 6 ∨ k = 18)) → K2 b k = I b k := by
      intro b k z1 z2 z3 z4 z5 z6 z7 z8
      rw [f5 b k z6 z7, f2 b k z5, u2_fr (by omega), u2_fr (by omega), u2_fr (by omega), u2_fr (by omega), u2_fr (by omega)]
      exact w b k z1 z2 z3 z4
    have B : ∀ b k, ¬ b = 90 → ¬ b = 92 → ¬ b = 93 → ¬ (b = 89 ∧ (k = 3 ∨ k = 4 ∨ k = 5 ∨ k = 6 ∨ k = 18)) → K2 b k = I1 b k := by
      intro b k z5 z6 z7 z8
      rw [f5 b k z6 z7, f2 b k z5, u2_fr (by omega), u2_fr (by omega), u2_fr (by omega), u2_fr (by omega), u2_fr (by omega)]
    refine ⟨I1, (u2 ρ.1 42 6 (some l), ρ.2), I 42 0, K2, ?_, ?_, ?_⟩
    · unfold f_X11_back
      simp only [bnd, z2, ocase_so, g1, Option.bind_some]
      rw [w 42 0 (by omega) (by omega) (by omega) (by omega)]
    · unfold f_X12_back
      rw [if_neg (by rw [w 89 24 (by omega) (by omega) (by omega) (by omega), z1]; decide)]
      rw [show Int32.ofNat 0 = (0 : Int32) from rfl] at f1 f4
      rw [f1]
      simp only [Option.bind_some]
      rw [f4]
      simp only [Option.bind_some]
      rw [A 89 0 (by omega) (by omega) (by omega) (by omega) (by omega) (by omega) (by omega) (by omega), m1]
    · have Sh' : Sh (u2 ρ.1 42 6 (some l), ρ.2) := sh.putB sh.k42 (some l)
      refine ⟨Sh', ?_, ?_, ?_, fr_vTape (fun a k hh => A a k (by omega) (by omega) (by omega) (by omega) (by omega) (by omega) (by omega) (by omega)) hp, fr_vSheet (fun a k hh => A a k (by omega) (by omega) (by omega) (by omega) (by omega) (by omega) (by omega) (by omega)) hs, gr_vRules (Grw.same sh _) (fun a k hh => u2_fr (by omega)) (fr_vRules (fun a k hh => A a k (by omega) (by omega) (by omega) (by omega) (by omega) (by omega) (by omega) (by omega)) hr), gr_vLaws (Grw.same sh _) (fun a k hh => u2_fr (by omega)) (fr_vLaws (fun a k hh => A a k (by omega) (by omega) (by omega) (by omega) (by omega) (by omega) (by omega) (by omega)) hl), ?_, gr_vImg (Grw.same sh _) (fun a k hh => u2_fr (by omega)) (fr_vImg (fun a k hh => A a k (by omega) (by omega) (by omega) (by omega) (by omega) (by omega) (by omega) (by omega)) hi), hw⟩
      · refine ⟨?_, ?_, fun k hk => ⟨?_, ?_⟩, fun k hk => ?_, fun z => ?_⟩
        · rw [A 42 0 (by omega) (by omega) (by omega) (by omega) (by omega) (by omega) (by omega) (by omega), A 89 0 (by omega) (by omega) (by omega) (by omega) (by omega) (by omega) (by omega) (by omega)]; exact m1
        · rw [A 89 0 (by omega) (by omega) (by omega) (by omega) (by omega) (by omega) (by omega) (by omega)]; exact m2
        · rw [B 43 k (by omega) (by omega) (by omega) (by omega), g3 k, f5 90 k (by omega) (by omega), f3 k]
          by_cases hq : k < tn (I 89 25)
          · rw [if_pos hq, if_pos (by omega), u2_fr (by omega), u2_fr (by omega), u2_fr (by omega), u2_fr (by omega), u2_fr (by omega), w 104 k (by omega) (by omega) (by omega) (by omega)]
            exact (e3 k (by omega)).1
          · rw [if_neg hq, if_neg (by omega), u2_fr (by omega), u2_fr (by omega), u2_fr (by omega), u2_fr (by omega), u2_fr (by omega), w 90 k (by omega) (by omega) (by omega) (by omega)]
            exact (m3 k hk).1
        · rw [A 44 k (by omega) (by omega) (by omega) (by omega) (by omega) (by omega) (by omega) (by omega), A 91 k (by omega) (by omega) (by omega) (by omega) (by omega) (by omega) (by omega) (by omega)]
          exact (m3 k hk).2
        · rw [A 89 0 (by omega) (by omega) (by omega) (by omega) (by omega) (by omega) (by omega) (by omega)] at hk
          rw [A 91 k (by omega) (by omega) (by omega) (by omega) (by omega) (by omega) (by omega) (by omega), f5 90 k (by omega) (by omega), f3 k]
          refine ⟨?_, (m4 k hk).2⟩
          by_cases hq : k < tn (I 89 25)
          · rw [if_pos (by omega), u2_fr (by omega), u2_fr (by omega), u2_fr (by omega), u2_fr (by omega), u2_fr (by omega), w 104 k (by omega) (by omega) (by omega) (by omega)]
            exact (e3 k (by omega)).2
          · rw [if_neg (by omega), u2_fr (by omega), u2_fr (by omega), u2_fr (by omega), u2_fr (by omega), u2_fr (by omega), w 90 k (by omega) (by omega) (by omega) (by omega)]
            exact (m4 k hk).1
        · rw [A 89 25 (by omega) (by omega) (by omega) (by omega) (by omega) (by omega) (by omega) (by omega), A 89 0 (by omega) (by omega) (by omega) (by omega) (by omega) (by omega) (by omega) (by omega)]
          exact hcap
      · have x : ∀ k, K2 89 k = (u2 (u2 (u2 (u2 (u2 I1 89 3 (I1 89 26)) 89 4 (I1 89 27)) 89 5 (I1 89 28)) 89 6 (I1 89 29)) 89 18 (I1 89 30)) 89 k := fun k => by rw [f5 89 k (by omega) (by omega), f2 89 k (by omega)]
        have y : ∀ k, I1 89 k = I 89 k := fun k => w 89 k (by omega) (by omega) (by omega) (by omega)
        have x3 : K2 89 3 = I 89 26 := by rw [x, u2_fr (by omega), u2_fr (by omega), u2_fr (by omega), u2_fr (by omega), u2_at, y]
        have x4 : K2 89 4 = I 89 27 := by rw [x, u2_fr (by omega), u2_fr (by omega), u2_fr (by omega), u2_at, y]
        have x5 : K2 89 5 = I 89 28 := by rw [x, u2_fr (by omega), u2_fr (by omega), u2_at, y]
        have x6 : K2 89 6 = I 89 29 := by rw [x, u2_fr (by omega), u2_at, y]
        unfold vTold
        rw [x3, x4, x5, x6, B 45 0 (by omega) (by omega) (by omega) (by omega), B 45 1 (by omega) (by omega) (by omega) (by omega), B 45 2 (by omega) (by omega) (by omega) (by omega), B 45 3 (by omega) (by omega) (by omega) (by omega), g4 0, g4 1, g4 2, g4 3]
        exact ⟨t0, t1, t2, t3, t4, t5, t6, t7⟩
      · intro k hk
        obtain ⟨v1, v2, v3, v4⟩ := e5 k hk
        have y : ∀ b j, (b = 105 ∨ b = 106) → K1 b j = I b j := by
          intro b j hb
          rw [f2 b j (by omega), u2_fr (by omega), u2_fr (by omega), u2_fr (by omega), u2_fr (by omega), u2_fr (by omega)]
          exact w b j (by omega) (by omega) (by omega) (by omega)
        have x1 : K2 92 k = I 105 k := by rw [f6 k, if_pos (by omega), y 105 k (Or.inl rfl)]
        have x2 : K2 93 k = I 106 k := by rw [f7 k, if_pos (by omega), y 106 k (Or.inr rfl)]
        rw [x1, x2, B 46 k (by omega) (by omega) (by omega) (by omega), B 47 k (by omega) (by omega) (by omega) (by omega), g5 k, g6 k, if_pos hk, if_pos hk]
        exact ⟨v1, v2, v3, v4⟩
      · refine ⟨t, ?_, ?_, ?_⟩
        · rw [A 89 17 (by omega) (by omega) (by omega) (by omega) (by omega) (by omega) (by omega) (by omega)]; exact ht1
        · rw [f5 89 18 (by omega) (by omega), f2 89 18 (by omega), u2_at, w 89 30 (by omega) (by omega) (by omega) (by omega)]; exact ht2
        · show u2 ρ.1 42 6 (some l) 42 6 = u2 ρ.1 42 6 (some l) 34 t
          rw [u2_at, u2_fr (by omega), hl1]
def Kc (ρ : Rh) (c : Nat) : Prop := ρ.2.1 c = (0, 0) ∧ ρ.2.1 (c + 1) = (1, 8) ∧ ρ.2.1 (c + 2) = (1, 8) ∧ ρ.2.1 (c + 3) = (1, 4) ∧ ρ.2.1 (c + 4) = (1, 12) ∧ ρ.2.1 (c + 5) = (1, 12)
theorem Kc.first {ρ : Rh} {c : Nat} (h : Kc ρ c) {a n : Nat} (hk : ρ.2.1 a = (0, n)) (hn : n ≠ 0) : ¬ (c ≤ a ∧ a ≤ c + 5) := by
  intro z
  obtain ⟨k0, k1, k2, k3, k4, k5⟩ := h
  have q : a = c ∨ a = c + 1 ∨ a = c + 2 ∨ a = c + 3 ∨ a = c + 4 ∨ a = c + 5 := by omega
  rcases q with q | q | q | q | q | q <;> subst q
  · rw [k0] at hk; exact hn (congrArg Prod.snd hk).symm
  · rw [k1] at hk; exact absurd (congrArg Prod.fst hk) (by decide : (1 : Nat) ≠ 0)
  · rw [k2] at hk; exact absurd (congrArg Prod.fst hk) (by decide : (1 : Nat) ≠ 0)
  · rw [k3] at hk; exact absurd (congrArg Prod.fst hk) (by decide : (1 : Nat) ≠ 0)
  · rw [k4] at hk; exact absurd (congrArg Prod.fst hk) (by decide : (1 : Nat) ≠ 0)
  · rw [k5] at hk; exact absurd (congrArg Prod.fst hk) (by decide : (1 : Nat) ≠ 0)
theorem Kc.second {ρ : Rh} {c : Nat} (h : Kc ρ c) {a n m : Nat} (hk : ρ.2.1 a = (0, n)) (hn : n ≠ 0) (hk2 : ρ.2.1 (a + 1) = (1, m)) : ¬ (c ≤ a + 1 ∧ a + 1 ≤ c + 5) := by
  intro z
  have := h.first hk hn
  have q : a + 1 = c := by omega
  have k0 := h.1
  rw [← q, hk2] at k0
  exact absurd (congrArg Prod.fst k0) (by decide : (1 : Nat) ≠ 0)
theorem kcl_pos (k : Int32) : kcl k ≠ 0 := by
  unfold kcl
  repeat' (first | decide | split)
theorem frc_vRules {ρ : Rh} {I I' : Nat → Nat → Int32} {c : Nat} (hK : Kc ρ c) (hF : ∀ a k : Nat, (a = 32 ∧ k = 3) ∨ (a = 89 ∧ k = 9) ∨ a = 94 ∨ a = 95 ∨ a = 96 ∨ (115 ≤ a ∧ ¬ (c ≤ a ∧ a ≤ c + 5)) → I' a k = I a k) (h : vRules ρ I) : vRules ρ I' := by
  have e0 : I' 32 3 = I 32 3 := hF 32 3 (by omega)
  have e1 : I' 89 9 = I 89 9 := hF 89 9 (by omega)
  unfold vRules at h ⊢
  rw [e0, e1]
  refine ⟨h.1, h.2.1, fun r hr => ⟨fun hl => ?_, (h.2.2 r hr).2⟩⟩
  obtain ⟨a, h1, h2⟩ := (h.2.2 r hr).1 hl
  refine ⟨a, h1, ?_⟩
  obtain ⟨a1, a2, a3, a4, a5, a6, a7, a8, a9, a10⟩ := h2
  have v0 : ∀ k : Nat, I' 94 k = I 94 k := fun k => hF _ _ (by omega)
  have v1 : ∀ k : Nat, I' 95 k = I 95 k := fun k => hF _ _ (by omega)
  have v2 : ∀ k : Nat, I' 96 k = I 96 k := fun k => hF _ _ (by omega)
  have n1 := hK.first a3 (kcl_pos _)
  have v3 : ∀ k : Nat, I' a k = I a k := fun k => hF _ _ (by omega)
  unfold vRule1
  simp only [v0, v1, v2, v3]
  refine ⟨a1, a2, a3, a4, a5, a6, a7, a8, fun z => ?_, a10⟩
  obtain ⟨z1, z2, z3, z4⟩ := a9 z
  have n2 := hK.second a3 (kcl_pos _) z3
  exact ⟨z1, z2, z3, fun m hm => (hF _ _ (by omega)).trans (z4 m hm)⟩
theorem frc_vLaws {ρ : Rh} {I I' : Nat → Nat → Int32} {c : Nat} (hc : 115 ≤ c) (hK : Kc ρ c) (hF : ∀ a k : Nat, (a = 32 ∧ k = 5) ∨ (a = 89 ∧ k = 17) ∨ a = 98 ∨ a = 99 ∨ a = 40 ∨ a = 41 ∨ (115 ≤ a ∧ ¬ (c ≤ a ∧ a ≤ c + 5)) → I' a k = I a k) (h : vLaws ρ I) : vLaws ρ I' := by
  have e0 : I' 32 5 = I 32 5 := hF 32 5 (by omega)
  have e1 : I' 89 17 = I 89 17 := hF 89 17 (by omega)
  unfold vLaws at h ⊢
  rw [e0, e1]
  refine ⟨h.1, h.2.1, fun t ht => ⟨fun hl => ?_, (h.2.2 t ht).2⟩⟩
  obtain ⟨a, h1, h2⟩ := (h.2.2 t ht).1 hl
  refine ⟨a, h1, fr_vLaw1 (fun b k hb => hF b k ?_) h2⟩
  obtain ⟨b', hh, n, g1, g2, g3, g4, g5, g6, g7, g8, g9, g10, g11, g12, g13, g14⟩ := h2
  have n1 := hK.first g1 (by decide)
  rcases hb with hb | hb | hb | hb | ⟨hb1, hb⟩
  · omega
  · omega
  · omega
  · omega
  · rcases g14 with g14 | g14
    · omega
    · have n2 := hK.second g1 (by decide) (by rw [← g14.2.1]; exact g8)
      omega
/-- the image taken, where the Boat that keeps it stands -/
theorem image_keep {ρ : Rh} {I : Nat → Nat → Int32} {J : Nat → Nat → Int64} (N : Nat) (hN : 200 ≤ N) {c : Nat} (sh : Sh ρ) (hm : vMen I) (ht : vTold I) (hd : vDays I) (hp : vTape I) (hs : vSheet I) (hr : vRules ρ I) (hl : vLaws ρ I) (hf : vForce ρ I) (hw : vWords J) (h32 : ρ.1 32 1 = some c) (c1 : 115 ≤ c) (c2 : c + 5 < 32 + ρ.2.2) (kc : ρ.2.1 c = (0, 0) ∧ ρ.2.1 (c + 1) = (1, 8) ∧ ρ.2.1 (c + 2) = (1, 8) ∧ ρ.2.1 (c + 3) = (1, 4) ∧ ρ.2.1 (c + 4) = (1, 12) ∧ ρ.2.1 (c + 5) = (1, 12)) (rc : ρ.1 c 1 = some (c + 1) ∧ ρ.1 c 2 = some (c + 2) ∧ ρ.1 c 3 = some (c + 3) ∧ ρ.1 c 4 = some (c + 4) ∧ ρ.1 c 5 = some (c + 5)) : ∃ I1 ρ1 I2, f_X0_keep N ρ (u2 I c 0 (I 42 0)) J c 42 = some (I1, ρ1) ∧ f_X12_image N ρ1 I1 J = some (I2, I1 42 0) ∧ Inv ρ1 I2 J := by
  obtain ⟨kc0, kc1, kc2, kc3, kc4, kc5⟩ := id kc
  obtain ⟨rc1, rc2, rc3, rc4, rc5⟩ := id rc
  obtain ⟨m1, m2, m3, m4, m5⟩ := id hm
  unfold bw at m2
  obtain ⟨t0, t1, t2, t3, t4, t5, t6, t7⟩ := id ht
  obtain ⟨t, l, ht1, ht6, ht2, ht3, ht4, hl2⟩ := law_now hl hf
  have tt := p_tnc (I 89 0) m2.1
  have i0 : (u2 I c 0 (I 42 0)) 42 0 = I 42 0 := u2_fr (by omega)
  obtain ⟨I1, g1, g2, g3, g4, g5, g6⟩ := keep_gen (J := J) N (ρ := ρ) (I := u2 I c 0 (I 42 0)) (p := c) (q := 42) (q1 := 43) (q3 := 45) (q4 := 46) (q5 := 47) (n := tn (I 89 0)) kc0 sh.k42 rc1 rc3 rc4 rc5 sh.r42_1 sh.r42_3 sh.r42_4 sh.r42_5 kc1 kc3 kc4 kc5 sh.k43 sh.k45 sh.k46 sh.k47 (by rw [i0, m1]; omega) (by rw [i0, m1]) (by omega) ht3 (by omega) ⟨by omega, by omega, by omega, by omega, by omega, by omega⟩ ⟨by omega, by omega, by omega, by omega⟩ (by omega)
  have w : ∀ b k, ¬ (c ≤ b ∧ b ≤ c + 5) → I1 b k = I b k := fun b k z => by
    rw [g2 b k (by omega) (by omega) (by omega) (by omega)]; exact u2_fr (by omega)
  obtain ⟨K1, f1, f2, f3⟩ := m_im8 (N := N) (J := J) (ρ := (u2 ρ.1 c 6 (some l), ρ.2)) 8 0 N (u2 (u2 (u2 (u2 (u2 (u2 (u2 I1 89 24 (1)) 89 25 (I1 89 0)) 89 26 (I1 89 3)) 89 27 (I1 89 4)) 89 28 (I1 89 5)) 89 29 (I1 89 6)) 89 30 (I1 89 18)) (by omega) (by omega)
  obtain ⟨K2, f4, f5, f6, f7⟩ := m_im12 (N := N) (J := J) (ρ := (u2 ρ.1 c 6 (some l), ρ.2)) 12 0 N K1 (by omega) (by omega)
  have B : ∀ b k, ¬ b = 104 → ¬ b = 105 → ¬ b = 106 → ¬ (b = 89 ∧ 24 ≤ k ∧ k ≤ 30) → K2 b k = I1 b k := by
    intro b k z5 z6 z7 z8
    rw [f5 b k z6 z7, f2 b k z5, u2_fr (by omega), u2_fr (by omega), u2_fr (by omega), u2_fr (by omega), u2_fr (by omega), u2_fr (by omega), u2_fr (by omega)]
  have A : ∀ b k, ¬ (c ≤ b ∧ b ≤ c + 5) → ¬ b = 104 → ¬ b = 105 → ¬ b = 106 → ¬ (b = 89 ∧ 24 ≤ k ∧ k ≤ 30) → K2 b k = I b k := fun b k z1 z2 z3 z4 z5 => (B b k z2 z3 z4 z5).trans (w b k z1)
  refine ⟨I1, (u2 ρ.1 c 6 (some l), ρ.2), K2, g1, ?_, ?_⟩
  · unfold f_X12_image
    rw [show Int32.ofNat 0 = (0 : Int32) from rfl] at f1 f4
    rw [f1]
    simp only [Option.bind_some]
    rw [f4]
    simp only [Option.bind_some]
    rw [A 89 0 (by omega) (by omega) (by omega) (by omega) (by omega), w 42 0 (by omega), m1]
  · have Sh' : Sh (u2 ρ.1 c 6 (some l), ρ.2) := sh.putH c1 6 (some l)
    have hK : Kc ρ c := kc
    have x : ∀ k, K2 89 k = (u2 (u2 (u2 (u2 (u2 (u2 (u2 I1 89 24 (1)) 89 25 (I1 89 0)) 89 26 (I1 89 3)) 89 27 (I1 89 4)) 89 28 (I1 89 5)) 89 29 (I1 89 6)) 89 30 (I1 89 18)) 89 k := fun k => by rw [f5 89 k (by omega) (by omega), f2 89 k (by omega)]
    have y : ∀ k, I1 89 k = I 89 k := fun k => w 89 k (by omega)
    have x24 : K2 89 24 = 1 := by rw [x, u2_fr (by omega), u2_fr (by omega), u2_fr (by omega), u2_fr (by omega), u2_fr (by omega), u2_fr (by omega), u2_at]
    have x25 : K2 89 25 = I 89 0 := by rw [x, u2_fr (by omega), u2_fr (by omega), u2_fr (by omega), u2_fr (by omega), u2_fr (by omega), u2_at, y]
    have x26 : K2 89 26 = I 89 3 := by rw [x, u2_fr (by omega), u2_fr (by omega), u2_fr (by omega), u2_fr (by omega), u2_at, y]
    have x27 : K2 89 27 = I 89 4 := by rw [x, u2_fr (by omega), u2_fr (by omega), u2_fr (by omega), u2_at, y]
    have x28 : K2 89 28 = I 89 5 := by rw [x, u2_fr (by omega), u2_fr (by omega), u2_at, y]
    have x29 : K2 89 29 = I 89 6 := by rw [x, u2_fr (by omega), u2_at, y]
    have x30 : K2 89 30 = I 89 18 := by rw [x, u2_at, y]
    have x0 : K2 89 0 = I 89 0 := A 89 0 (by omega) (by omega) (by omega) (by omega) (by omega)
    refine ⟨Sh', ?_, fr_vTold (fun a k hh => A a k (by omega) (by omega) (by omega) (by omega) (by omega)) ht, fr_vDays (fun a k hh => A a k (by omega) (by omega) (by omega) (by omega) (by omega)) hd, fr_vTape (fun a k hh => A a k (by omega) (by omega) (by omega) (by omega) (by omega)) hp, fr_vSheet (fun a k hh => A a k (by omega) (by omega) (by omega) (by omega) (by omega)) hs, gr_vRules (Grw.same sh _) (fun a k hh => u2_fr (by omega)) (frc_vRules hK (fun a k hh => A a k (by omega) (by omega) (by omega) (by omega) (by omega)) hr), gr_vLaws (Grw.same sh _) (fun a k hh => u2_fr (by omega)) (frc_vLaws c1 hK (fun a k hh => A a k (by omega) (by omega) (by omega) (by omega) (by omega)) hl), gr_vForce (fun a k hh => u2_fr (by omega)) (fr_vForce (fun a k hh => A a k (by omega) (by omega) (by omega) (by omega) (by omega)) hf), ?_, hw⟩
    · refine ⟨?_, ?_, fun k hk => ?_, fun k hk => ?_, fun _ => ?_⟩
      · rw [x0, A 42 0 (by omega) (by omega) (by omega) (by omega) (by omega)]; exact m1
      · rw [x0]; exact m2
      · rw [A 43 k (by omega) (by omega) (by omega) (by omega) (by omega), A 44 k (by omega) (by omega) (by omega) (by omega) (by omega), A 90 k (by omega) (by omega) (by omega) (by omega) (by omega), A 91 k (by omega) (by omega) (by omega) (by omega) (by omega)]
        exact m3 k hk
      · rw [x0] at hk
        rw [A 90 k (by omega) (by omega) (by omega) (by omega) (by omega), A 91 k (by omega) (by omega) (by omega) (by omega) (by omega)]
        exact m4 k hk
      · rw [x25, x0]; exact Int.le_refl _
    · refine Or.inr ⟨x24, c, ?_, ?_⟩
      · show u2 ρ.1 c 6 (some l) 32 1 = some c
        rw [u2_fr (by omega)]; exact h32
      · refine ⟨c1, c2, kc, ⟨(u2_fr (by omega)).trans rc1, (u2_fr (by omega)).trans rc2, (u2_fr (by omega)).trans rc3, (u2_fr (by omega)).trans rc4, (u2_fr (by omega)).trans rc5⟩, ⟨?_, ?_, ?_⟩, fun k hk => ?_, ?_, fun k hk => ?_, t, ?_, ?_, ?_⟩
        · rw [x25, B c 0 (by omega) (by omega) (by omega) (by omega), g2 c 0 (by omega) (by omega) (by omega) (by omega), u2_at, m1]
        · rw [x25]; exact m2.1
        · rw [x25]; exact m2.2
        · rw [x25] at hk
          have h104 : K2 104 k = I 90 k := by
            rw [f5 104 k (by omega) (by omega), f3 k, if_pos (by omega), u2_fr (by omega), u2_fr (by omega), u2_fr (by omega), u2_fr (by omega), u2_fr (by omega), u2_fr (by omega), u2_fr (by omega), w 90 k (by omega)]
          rw [h104, B (c + 1) k (by omega) (by omega) (by omega) (by omega), g3 k, if_pos (by omega), u2_fr (by omega)]
          exact ⟨(m3 k (by omega)).1, (m4 k hk).1⟩
        · rw [x26, x27, x28, x29, B (c + 3) 0 (by omega) (by omega) (by omega) (by omega), B (c + 3) 1 (by omega) (by omega) (by omega) (by omega), B (c + 3) 2 (by omega) (by omega) (by omega) (by omega), B (c + 3) 3 (by omega) (by omega) (by omega) (by omega), g4 0, g4 1, g4 2, g4 3, if_pos (by omega), if_pos (by omega), if_pos (by omega), if_pos (by omega), u2_fr (by omega), u2_fr (by omega), u2_fr (by omega), u2_fr (by omega)]
          exact ⟨t0, t1, t2, t3, t4, t5, t6, t7⟩
        · have yk : ∀ b j, (b = 92 ∨ b = 93) → K1 b j = I b j := by
            intro b j hb
            rw [f2 b j (by omega), u2_fr (by omega), u2_fr (by omega), u2_fr (by omega), u2_fr (by omega), u2_fr (by omega), u2_fr (by omega), u2_fr (by omega)]
            exact w b j (by omega)
          have q1 : K2 105 k = I 92 k := by rw [f6 k, if_pos (by omega), yk 92 k (Or.inl rfl)]
          have q2 : K2 106 k = I 93 k := by rw [f7 k, if_pos (by omega), yk 93 k (Or.inr rfl)]
          rw [q1, q2, B (c + 4) k (by omega) (by omega) (by omega) (by omega), B (c + 5) k (by omega) (by omega) (by omega) (by omega), g5 k, g6 k, if_pos hk, if_pos hk, u2_fr (by omega), u2_fr (by omega)]
          exact hd k hk
        · rw [A 89 17 (by omega) (by omega) (by omega) (by omega) (by omega)]; exact ht1
        · rw [x30]; exact ht2
        · show u2 ρ.1 c 6 (some l) c 6 = u2 ρ.1 c 6 (some l) 34 t
          rw [u2_at, u2_fr (by omega), ht4]
