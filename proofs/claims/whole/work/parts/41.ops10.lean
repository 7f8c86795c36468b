/-! ===== the pure layer: image, its Boat made ===== -/
def stp (ρ : Rh) (k : Nat × Nat) (a s : Nat) : Rh := (u2 (alρ ρ k).1 a s (some (32 + ρ.2.2)), (alρ ρ k).2)
theorem stp_n (ρ : Rh) (k : Nat × Nat) (a s : Nat) : (stp ρ k a s).2.2 = ρ.2.2 + 1 := rfl
theorem al_n (ρ : Rh) (k : Nat × Nat) : (alρ ρ k).2.2 = ρ.2.2 + 1 := rfl
theorem al_k (ρ : Rh) (k : Nat × Nat) (b : Nat) : (alρ ρ k).2.1 b = if b = 32 + ρ.2.2 then k else ρ.2.1 b := rfl
theorem al_r (ρ : Rh) (k : Nat × Nat) (b j : Nat) : (alρ ρ k).1 b j = if b = 32 + ρ.2.2 then none else ρ.1 b j := by
  show up ρ.1 (32 + ρ.2.2) (fun _ => none) b j = _
  rw [up_ap]; split <;> rfl
theorem stp_k (ρ : Rh) (k : Nat × Nat) (a s b : Nat) : (stp ρ k a s).2.1 b = if b = 32 + ρ.2.2 then k else ρ.2.1 b := rfl
theorem stp_r (ρ : Rh) (k : Nat × Nat) (a s b j : Nat) : (stp ρ k a s).1 b j = if b = a ∧ j = s then some (32 + ρ.2.2) else if b = 32 + ρ.2.2 then none else ρ.1 b j := by
  show u2 (alρ ρ k).1 a s (some (32 + ρ.2.2)) b j = _
  rw [u2_ap, al_r]
  by_cases h1 : b = a
  · by_cases h2 : j = s
    · rw [if_pos h1, if_pos h2, if_pos ⟨h1, h2⟩]
    · rw [if_pos h1, if_neg h2, if_neg (fun z : b = a ∧ j = s => h2 z.2)]
  · rw [if_neg h1, if_neg (fun z : b = a ∧ j = s => h1 z.1)]
theorem Sh.stp {ρ : Rh} (h : Sh ρ) {a : Nat} (ha : 115 ≤ a) (k : Nat × Nat) (s : Nat) : Sh (stp ρ k a s) := (h.al k).putH ha s _
def bo5 (ρ : Rh) (a : Nat) : Rh := stp (stp (stp (stp (stp ρ (1, 8) a 1) (1, 8) a 2) (1, 4) a 3) (1, 12) a 4) (1, 12) a 5
theorem init_boat {ρ : Rh} {I : Nat → Nat → Int32} {J : Nat → Nat → Int64} (N : Nat) {a l : Nat} (ha : 115 ≤ a) (hc : 32 + ρ.2.2 = a + 1) (hk : ρ.2.1 a = (0, 0)) : ∃ I1 J1, f_X0_init N ρ I J a l = some (I1, J1, (u2 (bo5 ρ a).1 a 6 (some l), (bo5 ρ a).2)) ∧ (∀ b k, ¬ (a + 1 ≤ b ∧ b ≤ a + 5) → I1 b k = I b k) ∧ (∀ b k, ¬ (a + 1 ≤ b ∧ b ≤ a + 5) → J1 b k = J b k) := by
  have k1 : (alρ ρ (1, 8)).2.1 a = (0, 0) := by rw [al_k, if_neg (by omega)]; exact hk
  obtain ⟨r1, e1⟩ : ∃ r, r = stp ρ (1, 8) a 1 := ⟨_, rfl⟩
  have n1 : r1.2.2 = ρ.2.2 + 1 := by rw [e1]; rfl
  have q1 : r1.2.1 a = (0, 0) := by rw [e1, stp_k, if_neg (by omega)]; exact hk
  have k2 : (alρ r1 (1, 8)).2.1 a = (0, 0) := by rw [al_k, if_neg (by omega)]; exact q1
  obtain ⟨r2, e2⟩ : ∃ r, r = stp r1 (1, 8) a 2 := ⟨_, rfl⟩
  have n2 : r2.2.2 = ρ.2.2 + 2 := by rw [e2, stp_n, n1]
  have q2 : r2.2.1 a = (0, 0) := by rw [e2, stp_k, if_neg (by omega)]; exact q1
  have k3 : (alρ r2 (1, 4)).2.1 a = (0, 0) := by rw [al_k, if_neg (by omega)]; exact q2
  obtain ⟨r3, e3⟩ : ∃ r, r = stp r2 (1, 4) a 3 := ⟨_, rfl⟩
  have n3 : r3.2.2 = ρ.2.2 + 3 := by rw [e3, stp_n, n2]
  have q3 : r3.2.1 a = (0, 0) := by rw [e3, stp_k, if_neg (by omega)]; exact q2
  have k4 : (alρ r3 (1, 12)).2.1 a = (0, 0) := by rw [al_k, if_neg (by omega)]; exact q3
  obtain ⟨r4, e4⟩ : ∃ r, r = stp r3 (1, 12) a 4 := ⟨_, rfl⟩
  have n4 : r4.2.2 = ρ.2.2 + 4 := by rw [e4, stp_n, n3]
  have q4 : r4.2.1 a = (0, 0) := by rw [e4, stp_k, if_neg (by omega)]; exact q3
  have k5 : (alρ r4 (1, 12)).2.1 a = (0, 0) := by rw [al_k, if_neg (by omega)]; exact q4
  refine ⟨up (up (u2 (u2 (u2 (u2 (up (up (up I (32 + ρ.2.2) (fun _ => 0)) (32 + r1.2.2) (fun _ => 0)) (32 + r2.2.2) (fun _ => 0)) (32 + r2.2.2) 0 6) (32 + r2.2.2) 1 60) (32 + r2.2.2) 2 12) (32 + r2.2.2) 3 100) (32 + r3.2.2) (fun _ => 0)) (32 + r4.2.2) (fun _ => 0), up (up (up (up (up J (32 + ρ.2.2) (fun _ => 0)) (32 + r1.2.2) (fun _ => 0)) (32 + r2.2.2) (fun _ => 0)) (32 + r3.2.2) (fun _ => 0)) (32 + r4.2.2) (fun _ => 0), ?_, ?_, ?_⟩
  · unfold f_X0_init
    simp only [bnd]
    rw [if_pos k1, if_pos ha, show ((u2 (alρ ρ (1, 8)).1 a 1 (some (32 + ρ.2.2)), (alρ ρ (1, 8)).2) : Rh) = r1 from e1.symm, show (alρ ρ (1, 8)).2.2 = r1.2.2 from by rw [e1]; rfl]
    rw [if_pos k2, if_pos ha, show ((u2 (alρ r1 (1, 8)).1 a 2 (some (32 + r1.2.2)), (alρ r1 (1, 8)).2) : Rh) = r2 from e2.symm, show (alρ r1 (1, 8)).2.2 = r2.2.2 from by rw [e2]; rfl]
    rw [if_pos k3, if_pos ha, show ((u2 (alρ r2 (1, 4)).1 a 3 (some (32 + r2.2.2)), (alρ r2 (1, 4)).2) : Rh) = r3 from e3.symm, show (alρ r2 (1, 4)).2.2 = r3.2.2 from by rw [e3]; rfl]
    rw [if_pos k4, if_pos ha, show ((u2 (alρ r3 (1, 12)).1 a 4 (some (32 + r3.2.2)), (alρ r3 (1, 12)).2) : Rh) = r4 from e4.symm, show (alρ r3 (1, 12)).2.2 = r4.2.2 from by rw [e4]; rfl]
    rw [if_pos k5, if_pos ha, if_pos ha]
    have e5 : bo5 ρ a = stp r4 (1, 12) a 5 := by rw [e4, e3, e2, e1]; rfl
    rw [e5]
    rfl
  · intro b k z
    rw [n1, n2, n3, n4]
    rw [up_ap, if_neg (by omega), up_ap, if_neg (by omega), u2_fr (by omega), u2_fr (by omega), u2_fr (by omega), u2_fr (by omega), up_ap, if_neg (by omega), up_ap, if_neg (by omega), up_ap, if_neg (by omega)]
  · intro b k z
    rw [n1, n2, n3, n4]
    rw [up_ap, if_neg (by omega), up_ap, if_neg (by omega), up_ap, if_neg (by omega), up_ap, if_neg (by omega), up_ap, if_neg (by omega)]
theorem op_image {ρ : Rh} {I : Nat → Nat → Int32} {J : Nat → Nat → Int64} (N : Nat) (h : Inv ρ I J) (hN : 200 ≤ N) : ∃ I1 J1 ρ1 r I2, f_X11_image N ρ I J = some (I1, J1, ρ1, r) ∧ f_X12_image N ρ1 I1 J1 = some (I2, r) ∧ Inv ρ1 I2 J1 := by
  obtain ⟨sh, hm, ht, hd, hp, hs, hr, hl, hf, hi, hw⟩ := id h
  have fin : ∀ (ρ' : Rh) (I' : Nat → Nat → Int32) (J' : Nat → Nat → Int64) (c : Nat), Sh ρ' → vMen I' → vTold I' → vDays I' → vTape I' → vSheet I' → vRules ρ' I' → vLaws ρ' I' → vForce ρ' I' → vWords J' → ρ'.1 32 1 = some c → 115 ≤ c → c + 5 < 32 + ρ'.2.2 → Kc ρ' c → (ρ'.1 c 1 = some (c + 1) ∧ ρ'.1 c 2 = some (c + 2) ∧ ρ'.1 c 3 = some (c + 3) ∧ ρ'.1 c 4 = some (c + 4) ∧ ρ'.1 c 5 = some (c + 5)) → ∃ I1 ρ1 I2, ((Option.bind (ρ'.1 32 1) fun a7 => (if ρ'.2.1 a7 = (0, 0) then (Option.bind (ρ'.1 32 1) fun a9 => (if ρ'.2.1 a9 = (0, 0) then (Option.bind (f_X0_keep N ρ' (u2 I' a7 0 (I' 42 0)) J' a9 42) fun v11 => some (v11.1, J', v11.2, (v11.1 42 0))) else none)) else none)) = some (I1, J', ρ1, I1 42 0)) ∧ f_X12_image N ρ1 I1 J' = some (I2, I1 42 0) ∧ Inv ρ1 I2 J' := by
    intro ρ' I' J' c sh hm ht hd hp hs hr hl hf hw h32 c1 c2 kc rc
    obtain ⟨I1, ρ1, I2, e1, e2, e3⟩ := image_keep N hN sh hm ht hd hp hs hr hl hf hw h32 c1 c2 kc rc
    refine ⟨I1, ρ1, I2, ?_, e2, e3⟩
    rw [h32]
    simp only [Option.bind_some]
    rw [if_pos kc.1, if_pos kc.1, e1]
    rfl
  rcases id hi with ⟨z1, z2⟩ | ⟨z1, c, z2, z3⟩
  · obtain ⟨t, l, ht1, ht6, ht2, ht3, ht4, hl2⟩ := law_now hl hf
    have g83 := sh.ge
    obtain ⟨a, ea⟩ : ∃ a, a = 32 + ρ.2.2 := ⟨_, rfl⟩
    obtain ⟨ρ0, er0⟩ : ∃ r, r = alρ ρ (0, 0) := ⟨_, rfl⟩
    have sh0 : Sh ρ0 := by rw [er0]; exact sh.al _
    have n0 : ρ0.2.2 = ρ.2.2 + 1 := by rw [er0]; rfl
    have k0 : ∀ b, ρ0.2.1 b = if b = a then (0, 0) else ρ.2.1 b := fun b => by rw [er0, al_k, ea]
    have r0 : ∀ b j, ρ0.1 b j = if b = a then none else ρ.1 b j := fun b j => by rw [er0, al_r, ea]
    obtain ⟨I1, J1, e1, e2, e3⟩ := init_boat (ρ := ρ0) (I := up I a (fun _ => 0)) (J := up J a (fun _ => 0)) N (a := a) (l := l) (by omega) (by omega) (by rw [k0, if_pos rfl])
    obtain ⟨ρ5, e5⟩ : ∃ r, r = bo5 ρ0 a := ⟨_, rfl⟩
    have kk : ∀ b, ρ5.2.1 b = if b = a + 5 then (1, 12) else if b = a + 4 then (1, 12) else if b = a + 3 then (1, 4) else if b = a + 2 then (1, 8) else if b = a + 1 then (1, 8) else ρ0.2.1 b := by
      intro b
      rw [e5]
      unfold bo5
      simp only [stp_k, stp_n, n0]
      rw [show 32 + (ρ.2.2 + 1) = a + 1 by omega, show 32 + (ρ.2.2 + 1 + 1) = a + 2 by omega, show 32 + (ρ.2.2 + 1 + 1 + 1) = a + 3 by omega, show 32 + (ρ.2.2 + 1 + 1 + 1 + 1) = a + 4 by omega, show 32 + (ρ.2.2 + 1 + 1 + 1 + 1 + 1) = a + 5 by omega]
    have rr : ∀ b j, ρ5.1 b j = if b = a ∧ j = 5 then some (a + 5) else if b = a + 5 then none else if b = a ∧ j = 4 then some (a + 4) else if b = a + 4 then none else if b = a ∧ j = 3 then some (a + 3) else if b = a + 3 then none else if b = a ∧ j = 2 then some (a + 2) else if b = a + 2 then none else if b = a ∧ j = 1 then some (a + 1) else if b = a + 1 then none else ρ0.1 b j := by
      intro b j
      rw [e5]
      unfold bo5
      simp only [stp_r, stp_n, n0]
      rw [show 32 + (ρ.2.2 + 1) = a + 1 by omega, show 32 + (ρ.2.2 + 1 + 1) = a + 2 by omega, show 32 + (ρ.2.2 + 1 + 1 + 1) = a + 3 by omega, show 32 + (ρ.2.2 + 1 + 1 + 1 + 1) = a + 4 by omega, show 32 + (ρ.2.2 + 1 + 1 + 1 + 1 + 1) = a + 5 by omega]
    have n5 : ρ5.2.2 = ρ.2.2 + 6 := by rw [e5]; unfold bo5; simp only [stp_n, n0]
    have sh5 : Sh ρ5 := by
      rw [e5]; unfold bo5
      exact ((((sh0.stp (by omega) _ _).stp (by omega) _ _).stp (by omega) _ _).stp (by omega) _ _).stp (by omega) _ _
    have sh6 : Sh (u2 (u2 ρ5.1 a 6 (some l)) 32 1 (some a), ρ5.2) := by
      have s1 : Sh (u2 ρ5.1 a 6 (some l), ρ5.2) := sh5.putH (by omega) 6 (some l)
      exact Sh.put s1 32 1 (some a) (by decide) (by decide)
    have RR : ∀ b j, b < a → ¬ (b = 32 ∧ j = 1) → (u2 (u2 ρ5.1 a 6 (some l)) 32 1 (some a)) b j = ρ.1 b j := by
      intro b j z1 z2
      rw [u2_fr (by omega), u2_fr (by omega), rr, if_neg (by omega), if_neg (by omega), if_neg (by omega), if_neg (by omega), if_neg (by omega), if_neg (by omega), if_neg (by omega), if_neg (by omega), if_neg (by omega), if_neg (by omega), r0, if_neg (by omega)]
    have Ra : ∀ j, (u2 (u2 ρ5.1 a 6 (some l)) 32 1 (some a)) a j = if j = 6 then some l else ρ5.1 a j := by
      intro j
      rw [u2_fr (by omega), u2_ap, if_pos rfl]
    have G : Grw ρ (u2 (u2 ρ5.1 a 6 (some l)) 32 1 (some a), ρ5.2) := by
      refine ⟨by show ρ.2.2 ≤ ρ5.2.2; omega, fun b hb => ?_, g83⟩
      show ρ5.2.1 b = ρ.2.1 b
      rw [kk, if_neg (by omega), if_neg (by omega), if_neg (by omega), if_neg (by omega), if_neg (by omega), k0, if_neg (by omega)]
    have FI : ∀ b k, b < a → I1 b k = I b k := fun b k hb => by rw [e2 b k (by omega), up_ap, if_neg (by omega)]
    have hi6 : I1 89 24 = 0 := by rw [FI 89 24 (by omega)]; exact z2
    have cells_r : vRules ρ I1 := by
      have hr' := hr
      refine ⟨?_, ?_, fun r hr8 => ⟨fun hlt => ?_, fun hge => ?_⟩⟩
      · rw [FI 32 3 (by omega), FI 89 9 (by omega)]; exact hr.1
      · rw [FI 89 9 (by omega)]; exact hr.2.1
      · rw [FI 89 9 (by omega)] at hlt
        obtain ⟨b, h1, h2⟩ := (hr.2.2 r hr8).1 hlt
        refine ⟨b, h1, ?_⟩
        obtain ⟨a1, a2, a3, a4, a5, a6, a7, a8, a9, a10⟩ := h2
        have v0 : ∀ k : Nat, I1 94 k = I 94 k := fun k => FI _ _ (by omega)
        have v1 : ∀ k : Nat, I1 95 k = I 95 k := fun k => FI _ _ (by omega)
        have v2 : ∀ k : Nat, I1 96 k = I 96 k := fun k => FI _ _ (by omega)
        have v3 : ∀ k : Nat, I1 b k = I b k := fun k => FI _ _ (by omega)
        unfold vRule1
        simp only [v0, v1, v2, v3]
        refine ⟨a1, a2, a3, a4, a5, a6, a7, a8, fun z => ?_, a10⟩
        obtain ⟨z1, z2, z3, z4⟩ := a9 z
        exact ⟨z1, z2, z3, fun m hm => (FI _ _ (by omega)).trans (z4 m hm)⟩
      · rw [FI 89 9 (by omega)] at hge
        exact (hr.2.2 r hr8).2 hge
    have cells_l : vLaws ρ I1 := by
      refine ⟨?_, ?_, fun t ht => ⟨fun hlt => ?_, fun hge => ?_⟩⟩
      · rw [FI 32 5 (by omega), FI 89 17 (by omega)]; exact hl.1
      · rw [FI 89 17 (by omega)]; exact hl.2.1
      · rw [FI 89 17 (by omega)] at hlt
        obtain ⟨b, h1, h2⟩ := (hl.2.2 t ht).1 hlt
        refine ⟨b, h1, fr_vLaw1 (fun q k hq => FI q k ?_) h2⟩
        obtain ⟨b', hh, n, g1, g2, g3, g4, g5, g6, g7, g8, g9, g10, g11, g12, g13, g14⟩ := h2
        omega
      · rw [FI 89 17 (by omega)] at hge
        exact (hl.2.2 t ht).2 hge
    obtain ⟨I2, ρ2, I3, f1, f2, f3⟩ := fin (u2 (u2 ρ5.1 a 6 (some l)) 32 1 (some a), ρ5.2) I1 J1 a sh6 (fr_vMen (fun b k hh => FI b k (by omega)) hm) (fr_vTold (fun b k hh => FI b k (by omega)) ht) (fr_vDays (fun b k hh => FI b k (by omega)) hd) (fr_vTape (fun b k hh => FI b k (by omega)) hp) (fr_vSheet (fun b k hh => FI b k (by omega)) hs)
      (gr_vRules G (fun b k hh => RR b k (by omega) (by omega)) cells_r) (gr_vLaws G (fun b k hh => RR b k (by omega) (by omega)) cells_l) (gr_vForce (fun b k hh => RR b k (by omega) (by omega)) (fr_vForce (fun b k hh => FI b k (by omega)) hf)) (fun k hk => by rw [e3 110 k (by omega), up_ap, if_neg (by omega)]; exact hw k hk) (by show (u2 (u2 ρ5.1 a 6 (some l)) 32 1 (some a)) 32 1 = some a; exact u2_at) (by omega) (by show a + 5 < 32 + ρ5.2.2; omega)
      (by
        show ρ5.2.1 a = _ ∧ ρ5.2.1 (a + 1) = _ ∧ ρ5.2.1 (a + 2) = _ ∧ ρ5.2.1 (a + 3) = _ ∧ ρ5.2.1 (a + 4) = _ ∧ ρ5.2.1 (a + 5) = _
        refine ⟨?_, ?_, ?_, ?_, ?_, ?_⟩
        · rw [kk, if_neg (by omega), if_neg (by omega), if_neg (by omega), if_neg (by omega), if_neg (by omega), k0, if_pos rfl]
        · rw [kk, if_neg (by omega), if_neg (by omega), if_neg (by omega), if_neg (by omega), if_pos rfl]
        · rw [kk, if_neg (by omega), if_neg (by omega), if_neg (by omega), if_pos rfl]
        · rw [kk, if_neg (by omega), if_neg (by omega), if_pos rfl]
        · rw [kk, if_neg (by omega), if_pos rfl]
        · rw [kk, if_pos rfl])
      (by
        refine ⟨?_, ?_, ?_, ?_, ?_⟩
        · show (u2 (u2 ρ5.1 a 6 (some l)) 32 1 (some a)) a 1 = _
          rw [Ra, if_neg (by omega), rr, if_neg (by omega), if_neg (by omega), if_neg (by omega), if_neg (by omega), if_neg (by omega), if_neg (by omega), if_neg (by omega), if_neg (by omega), if_pos ⟨rfl, rfl⟩]
        · show (u2 (u2 ρ5.1 a 6 (some l)) 32 1 (some a)) a 2 = _
          rw [Ra, if_neg (by omega), rr, if_neg (by omega), if_neg (by omega), if_neg (by omega), if_neg (by omega), if_neg (by omega), if_neg (by omega), if_pos ⟨rfl, rfl⟩]
        · show (u2 (u2 ρ5.1 a 6 (some l)) 32 1 (some a)) a 3 = _
          rw [Ra, if_neg (by omega), rr, if_neg (by omega), if_neg (by omega), if_neg (by omega), if_neg (by omega), if_pos ⟨rfl, rfl⟩]
        · show (u2 (u2 ρ5.1 a 6 (some l)) 32 1 (some a)) a 4 = _
          rw [Ra, if_neg (by omega), rr, if_neg (by omega), if_neg (by omega), if_pos ⟨rfl, rfl⟩]
        · show (u2 (u2 ρ5.1 a 6 (some l)) 32 1 (some a)) a 5 = _
          rw [Ra, if_neg (by omega), rr, if_pos ⟨rfl, rfl⟩])
    refine ⟨I2, J1, ρ2, I2 42 0, I3, ?_, f2, f3⟩
    unfold f_X11_image
    simp only [bnd, z1, ocase_no]
    rw [← er0, r0 42 6, if_neg (by omega), ht3]
    simp only [Option.bind_some]
    rw [← ea, e1]
    simp only [Option.bind_some]
    rw [← e5]
    exact f1
  · have z3' := z3
    obtain ⟨c1, c2, kc, rc, z4⟩ := z3'
    obtain ⟨I2, ρ2, I3, f1, f2, f3⟩ := fin ρ I J c sh hm ht hd hp hs hr hl hf hw z2 c1 c2 kc rc
    refine ⟨I2, J, ρ2, I2 42 0, I3, ?_, f2, f3⟩
    unfold f_X11_image
    simp only [bnd]
    rw [show ocase (ρ.1 32 1) ((Option.bind ((alρ ρ (0, 0)).1 42 6) fun a4 => (Option.bind (f_X0_init N (alρ ρ (0, 0)) (up I (32 + ρ.2.2) (fun _ => 0)) (up J (32 + ρ.2.2) (fun _ => 0)) (32 + ρ.2.2) a4) fun v5 => some (v5.1, v5.2.1, (u2 v5.2.2.1 32 1 (some (32 + ρ.2.2)), v5.2.2.2)))) : Option ((Nat → Nat → Int32) × (Nat → Nat → Int64) × Rh)) (fun a2 => some (I, J, ρ)) = some (I, J, ρ) from by rw [z2]; rfl]
    exact f1
