/-! ===== the pure layer: rule ===== -/
theorem rule_of {ρ : Rh} {I : Nat → Nat → Int32} {J : Nat → Nat → Int64} (N : Nat) (sh : Sh ρ) {k w : Int32} {so : Option Nat} {n s : Nat} (h6 : k = 0 ∨ k = 1 ∨ k = 2 ∨ k = 3 ∨ k = 4 ∨ k = 5) (hso : k = 4 → so = some (81 + 2 * s) ∧ s < 4 ∧ I (81 + 2 * s) 1 = Int32.ofNat n ∧ n ≤ 8) :
    ∃ I1 J1 ρ1, f_X11_ruleOf N ρ I J k w so = some (I1, J1, ρ1, some (32 + ρ.2.2)) ∧ Sh ρ1 ∧ Grw ρ ρ1 ∧ (∀ b j, b < 32 + ρ.2.2 → ρ1.1 b j = ρ.1 b j) ∧ ρ1.2.1 (32 + ρ.2.2) = (0, kcl k) ∧ (∀ b j, b < 32 + ρ.2.2 → I1 b j = I b j) ∧ I1 (32 + ρ.2.2) 0 = k ∧ I1 (32 + ρ.2.2) 1 = w ∧ ρ.2.2 < ρ1.2.2 ∧ (∀ b j, b < 32 + ρ.2.2 → J1 b j = J b j) ∧ (k = 4 → ρ1.1 (32 + ρ.2.2) 2 = some (32 + ρ.2.2 + 1) ∧ ρ.2.2 + 1 < ρ1.2.2 ∧ ρ1.2.1 (32 + ρ.2.2 + 1) = (1, 8) ∧ ∀ m, m < 8 → I1 (32 + ρ.2.2 + 1) m = if m < n then I (82 + 2 * s) m else 0) := by
  have g83 := sh.ge
  rcases h6 with hk | hk | hk | hk | hk | hk
  · subst hk
    refine ⟨u2 (u2 (up I (32 + ρ.2.2) (fun _ => 0)) (32 + ρ.2.2) 0 0) (32 + ρ.2.2) 1 w, up J (32 + ρ.2.2) (fun _ => 0), alρ ρ (0, 6), ?_, sh.al _, ⟨by rw [al_n]; omega, fun b hb => by rw [al_k, if_neg (by omega)], g83⟩, fun b j hb => by rw [al_r, if_neg (by omega)], ?_, fun b j hb => (u2_fr (by omega)).trans ((u2_fr (by omega)).trans (by rw [up_ap, if_neg (by omega)])), (u2_fr (by omega)).trans u2_at, u2_at, by rw [al_n]; omega, fun b j hb => by rw [up_ap, if_neg (by omega)], fun z => absurd z (by decide)⟩
    · unfold f_X11_ruleOf
      simp only [bnd, f_X6_init_6]
      have e : (alρ ρ (0, 6)).2.1 (32 + ρ.2.2) = (0, 6) := by rw [al_k, if_pos rfl]
      simp [e]
    · rw [al_k, if_pos rfl]; rfl
  · subst hk
    refine ⟨u2 (u2 (up I (32 + ρ.2.2) (fun _ => 0)) (32 + ρ.2.2) 0 1) (32 + ρ.2.2) 1 w, up J (32 + ρ.2.2) (fun _ => 0), alρ ρ (0, 5), ?_, sh.al _, ⟨by rw [al_n]; omega, fun b hb => by rw [al_k, if_neg (by omega)], g83⟩, fun b j hb => by rw [al_r, if_neg (by omega)], ?_, fun b j hb => (u2_fr (by omega)).trans ((u2_fr (by omega)).trans (by rw [up_ap, if_neg (by omega)])), (u2_fr (by omega)).trans u2_at, u2_at, by rw [al_n]; omega, fun b j hb => by rw [up_ap, if_neg (by omega)], fun z => absurd z (by decide)⟩
    · unfold f_X11_ruleOf
      simp only [bnd, f_X5_init_5, f_X6_init_5, Option.bind_some]
      have e : (alρ ρ (0, 5)).2.1 (32 + ρ.2.2) = (0, 5) := by rw [al_k, if_pos rfl]
      simp [e]
    · rw [al_k, if_pos rfl]; rfl
  · subst hk
    refine ⟨u2 (u2 (up I (32 + ρ.2.2) (fun _ => 0)) (32 + ρ.2.2) 0 2) (32 + ρ.2.2) 1 w, up J (32 + ρ.2.2) (fun _ => 0), alρ ρ (0, 4), ?_, sh.al _, ⟨by rw [al_n]; omega, fun b hb => by rw [al_k, if_neg (by omega)], g83⟩, fun b j hb => by rw [al_r, if_neg (by omega)], ?_, fun b j hb => (u2_fr (by omega)).trans ((u2_fr (by omega)).trans (by rw [up_ap, if_neg (by omega)])), (u2_fr (by omega)).trans u2_at, u2_at, by rw [al_n]; omega, fun b j hb => by rw [up_ap, if_neg (by omega)], fun z => absurd z (by decide)⟩
    · unfold f_X11_ruleOf
      simp only [bnd, f_X4_init_4, f_X6_init_4, Option.bind_some]
      have e : (alρ ρ (0, 4)).2.1 (32 + ρ.2.2) = (0, 4) := by rw [al_k, if_pos rfl]
      simp [e]
    · rw [al_k, if_pos rfl]; rfl
  · subst hk
    refine ⟨u2 (u2 (up I (32 + ρ.2.2) (fun _ => 0)) (32 + ρ.2.2) 0 3) (32 + ρ.2.2) 1 w, up J (32 + ρ.2.2) (fun _ => 0), alρ ρ (0, 3), ?_, sh.al _, ⟨by rw [al_n]; omega, fun b hb => by rw [al_k, if_neg (by omega)], g83⟩, fun b j hb => by rw [al_r, if_neg (by omega)], ?_, fun b j hb => (u2_fr (by omega)).trans ((u2_fr (by omega)).trans (by rw [up_ap, if_neg (by omega)])), (u2_fr (by omega)).trans u2_at, u2_at, by rw [al_n]; omega, fun b j hb => by rw [up_ap, if_neg (by omega)], fun z => absurd z (by decide)⟩
    · unfold f_X11_ruleOf
      simp only [bnd, f_X3_init_3, f_X4_init_3, f_X6_init_3, Option.bind_some]
      have e : (alρ ρ (0, 3)).2.1 (32 + ρ.2.2) = (0, 3) := by rw [al_k, if_pos rfl]
      simp [e]
    · rw [al_k, if_pos rfl]; rfl
  · subst hk
    obtain ⟨hs1, hs2, hs3, hs4⟩ := hso rfl
    obtain ⟨k1, k2, k3⟩ := sheet_k sh hs2
    obtain ⟨a, ea⟩ : ∃ a, a = 32 + ρ.2.2 := ⟨_, rfl⟩
    rw [← ea]
    obtain ⟨r0, e0⟩ : ∃ r, r = alρ ρ (0, 9) := ⟨_, rfl⟩
    have n0 : r0.2.2 = ρ.2.2 + 1 := by rw [e0]; rfl
    have kk0 : ∀ b, r0.2.1 b = if b = a then (0, 9) else ρ.2.1 b := fun b => by rw [e0, al_k, ea]
    have rr0 : ∀ b j, r0.1 b j = if b = a then none else ρ.1 b j := fun b j => by rw [e0, al_r, ea]
    obtain ⟨r1, e1⟩ : ∃ r, r = stp r0 (1, 8) a 2 := ⟨_, rfl⟩
    have n1 : r1.2.2 = ρ.2.2 + 2 := by rw [e1, stp_n, n0]
    have kk1 : ∀ b, r1.2.1 b = if b = a + 1 then (1, 8) else r0.2.1 b := fun b => by rw [e1, stp_k, n0, show 32 + (ρ.2.2 + 1) = a + 1 by omega]
    have rr1 : ∀ b j, r1.1 b j = if b = a ∧ j = 2 then some (a + 1) else if b = a + 1 then none else r0.1 b j := fun b j => by rw [e1, stp_r, n0, show 32 + (ρ.2.2 + 1) = a + 1 by omega]
    have sh1 : Sh r1 := by rw [e1]; exact Sh.stp (by rw [e0]; exact sh.al _) (by omega) _ _
    have z9 : (alρ r0 (1, 8)).2.1 a = (0, 9) := by rw [al_k, if_neg (by omega), kk0, if_pos rfl]
    have z9' : r0.2.1 a = (0, 9) := by rw [kk0, if_pos rfl]
    have ks : r1.2.1 (81 + 2 * s) = (0, 7) := by rw [kk1, if_neg (by omega), kk0, if_neg (by omega)]; exact k1
    have kn : r1.2.1 (82 + 2 * s) = (1, 40) := by rw [kk1, if_neg (by omega), kk0, if_neg (by omega)]; exact k3
    have ka : r1.2.1 (a + 1) = (1, 8) := by rw [kk1, if_pos rfl]
    have rs : r1.1 (81 + 2 * s) 2 = some (82 + 2 * s) := by rw [rr1, if_neg (by omega), if_neg (by omega), rr0, if_neg (by omega)]; exact k2
    have ra : r1.1 a 2 = some (a + 1) := by rw [rr1, if_pos ⟨rfl, rfl⟩]
    obtain ⟨I0, hI0⟩ : ∃ X, X = up (u2 (u2 (up I a (fun _ => 0)) a 0 4) a 1 w) (a + 1) (fun _ => 0) := ⟨_, rfl⟩
    have w0 : ∀ b j, b < a → I0 b j = I b j := fun b j hb => by
      rw [hI0, up_ap, if_neg (by omega), u2_fr (by omega), u2_fr (by omega), up_ap, if_neg (by omega)]
    have mn : (if (8 : Int32) < I0 (81 + 2 * s) 1 then (8 : Int32) else I0 (81 + 2 * s) 1) = Int32.ofNat n := by
      rw [w0 _ _ (by omega), hs3, if_neg (by rw [fa_lt, p_nI (by omega)]; show ¬ (8 : Int) < _; omega)]
    have en := p_nI (n := n) (by omega)
    have et := p_tnI (n := n) (by omega)
    refine ⟨up I0 (a + 1) (cpy (I0 (82 + 2 * s)) (I0 (a + 1)) 0 0 n), up (up J a (fun _ => 0)) (a + 1) (fun _ => 0), r1, ?_, sh1, ⟨by omega, fun b hb => by rw [kk1, if_neg (by omega), kk0, if_neg (by omega)], g83⟩, fun b j hb => by rw [rr1, if_neg (by omega), if_neg (by omega), rr0, if_neg (by omega)], ?_, fun b j hb => by rw [up_ap, if_neg (by omega)]; exact w0 b j hb, ?_, ?_, by omega, fun b j hb => by rw [up_ap, if_neg (by omega), up_ap, if_neg (by omega)], fun _ => ⟨ra, by omega, ka, fun m hm => ?_⟩⟩
    · unfold f_X11_ruleOf
      rw [if_neg (by decide), if_neg (by decide), if_neg (by decide), if_pos rfl]
      simp only [bnd]
      rw [← ea, ← e0]
      have ea1 : 32 + r0.2.2 = a + 1 := by omega
      have E : r1 = (u2 (alρ r0 (1, 8)).1 a 2 (some (a + 1)), (alρ r0 (1, 8)).2) := by rw [e1]; unfold stp; rw [ea1]
      have ks' : (alρ r0 (1, 8)).2.1 (81 + 2 * s) = (0, 7) := by rw [E] at ks; exact ks
      have kn' : (alρ r0 (1, 8)).2.1 (82 + 2 * s) = (1, 40) := by rw [E] at kn; exact kn
      have ka' : (alρ r0 (1, 8)).2.1 (a + 1) = (1, 8) := by rw [E] at ka; exact ka
      have rs' : u2 (alρ r0 (1, 8)).1 a 2 (some (a + 1)) (81 + 2 * s) 2 = some (82 + 2 * s) := by rw [E] at rs; exact rs
      have ra' : u2 (alρ r0 (1, 8)).1 a 2 (some (a + 1)) a 2 = some (a + 1) := by rw [E] at ra; exact ra
      unfold f_X9_init_9 f_X6_init_9
      rw [if_pos z9']
      simp only [Option.bind_some, bnd, hs1, ocase_so, ea1]
      rw [if_pos z9, if_pos (by omega), if_pos ks', rs', ra', ← hI0]
      simp only [Option.bind_some, kn', ka', mn, et]
      rw [if_pos trivial, if_pos trivial, if_pos (by rw [fa_lt, en]; show ¬ _ < (0 : Int); omega), if_pos (by show 0 + n ≤ 40; omega), if_pos (by show 0 + n ≤ 8; omega), E]
      rfl
    · rw [kk1, if_neg (by omega), kk0, if_pos rfl]; rfl
    · rw [up_ap, if_neg (by omega), hI0, up_ap, if_neg (by omega), u2_fr (by omega), u2_at]
    · rw [up_ap, if_neg (by omega), hI0, up_ap, if_neg (by omega), u2_at]
    · rw [up_ap, if_pos rfl]
      simp only [cpy, Nat.zero_add, Nat.zero_le, true_and, Nat.sub_zero]
      by_cases hq : m < n
      · rw [if_pos hq, if_pos hq, w0 _ _ (by omega)]
      · rw [if_neg hq, if_neg hq, hI0, up_ap, if_pos rfl]
  · subst hk
    refine ⟨u2 (u2 (up I (32 + ρ.2.2) (fun _ => 0)) (32 + ρ.2.2) 0 5) (32 + ρ.2.2) 1 w, up J (32 + ρ.2.2) (fun _ => 0), alρ ρ (0, 1), ?_, sh.al _, ⟨by rw [al_n]; omega, fun b hb => by rw [al_k, if_neg (by omega)], g83⟩, fun b j hb => by rw [al_r, if_neg (by omega)], ?_, fun b j hb => (u2_fr (by omega)).trans ((u2_fr (by omega)).trans (by rw [up_ap, if_neg (by omega)])), (u2_fr (by omega)).trans u2_at, u2_at, by rw [al_n]; omega, fun b j hb => by rw [up_ap, if_neg (by omega)], fun z => absurd z (by decide)⟩
    · unfold f_X11_ruleOf
      simp only [bnd, f_X1_init_1, f_X5_init_1, f_X6_init_1, Option.bind_some]
      have e : (alρ ρ (0, 1)).2.1 (32 + ρ.2.2) = (0, 1) := by rw [al_k, if_pos rfl]
      simp [e]
    · rw [al_k, if_pos rfl]; rfl
