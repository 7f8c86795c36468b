/-! ===== the pure layer: a whole text, the model ===== -/
theorem sim_top {T : Nat → Int32} (hT : ∀ i, 160 ≤ i → T i = -21) {i : Nat} (hi : i ≤ 160) : (mr T i [] 0 2).2.1 = (lvp T 60 false i 0 0).2.1 ∧ ((mr T i [] 0 2).1 = true ↔ (lvp T 60 false i 0 0).1 = true ∧ T (lvp T 60 false i 0 0).2.1 = -20) ∧ ((mr T i [] 0 2).1 = true → (mr T i [] 0 2).2.2 = (lvp T 60 false i 0 0).2.2) ∧ i ≤ (lvp T 60 false i 0 0).2.1 ∧ (lvp T 60 false i 0 0).2.1 ≤ 160 := by
  have h := (sim hT 60).2 i 0 0 [] 2 (by omega) (by omega) (by omega) hi trivial (.inl ⟨rfl, fun z => absurd z (by omega)⟩)
  obtain ⟨r, hr⟩ : ∃ r, r = lvp T 60 false i 0 0 := ⟨_, rfl⟩
  rw [← hr] at h ⊢
  rcases h with ⟨a1, a2, a3, out, P, a4, a5, a6, a7⟩ | ⟨a1, a2, a3, a4, a5⟩
  · rw [List.append_nil, Nat.zero_add] at a7
    have eu : uw 1 P (cn P) = ([], 0, P) := by
      have := uw_pd (r := 1) (A := P) (H := []) 0 a5 trivial
      rw [List.append_nil, Nat.zero_add] at this
      exact this
    by_cases c20 : T r.2.1 = -20
    · have e := mr_0 (T := T) a3 P (cn P)
      rw [if_pos c20, eu, if_pos rfl] at e
      rw [a7, e]
      exact ⟨rfl, ⟨fun _ => ⟨a1, c20⟩, fun _ => rfl⟩, fun _ => a4.symm, by omega, a3⟩
    · have hst : (mr T r.2.1 P (cn P) 0).1 = false ∧ (mr T r.2.1 P (cn P) 0).2.1 = r.2.1 := by
        by_cases c19 : T r.2.1 = -19
        · rw [mr_0 a3, if_neg c20, if_pos c19, eu, if_pos rfl]
          exact ⟨rfl, rfl⟩
        · have := mr_stuck a3 a6 c20 c19 [] (cn P)
          rw [List.append_nil] at this
          exact this
      rw [a7]
      refine ⟨hst.2, ⟨fun z => ?_, fun z => absurd z.2 c20⟩, fun z => ?_, by omega, a3⟩
      · have z' : (mr T r.2.1 P (cn P) 0).1 = true := z
        rw [hst.1] at z'
        exact absurd z' Bool.false_ne_true
      · have z' : (mr T r.2.1 P (cn P) 0).1 = true := z
        rw [hst.1] at z'
        exact absurd z' Bool.false_ne_true
  · refine ⟨a5, ⟨fun z => ?_, fun z => ?_⟩, fun z => ?_, a2, a3⟩
    · rw [a4] at z; exact absurd z Bool.false_ne_true
    · rw [a1] at z; exact absurd z.1 Bool.false_ne_true
    · rw [a4] at z; exact absurd z Bool.false_ne_true
theorem m_eRead {N : Nat} (hN : 1000 ≤ N) {ρ : Rh} {J : Nat → Nat → Int64} (hw : vWords J) {c : Nat → Nat} {sz t : Nat} (hsz : sz ≤ 160) (ht : t < 6) (hT : ∀ i, 160 ≤ i → tT c sz i = -21) {i n : Nat} {X : Nat → Nat → Int32} (hi : i ≤ 160) (hn : n ≤ i) (hR : mPo c sz i X) (h17 : X 89 17 = Int32.ofNat t) (h45 : X 89 45 = Int32.ofNat n) : ∃ X', f_X12_eRead N ρ X J = some (X', if (mr (tT c sz) i [] 0 2).1 = true then 1 else 0) ∧ mZ c sz t n X X' (mr (tT c sz) i [] 0 2) := by
  obtain ⟨q1, q2, q3, q4⟩ := id hR
  have hR0 : mPo c sz i (u2 (u2 X 89 43 0) 89 44 0) := ⟨(u2_fr (by omega)).trans ((u2_fr (by omega)).trans q1), (u2_fr (by omega)).trans ((u2_fr (by omega)).trans q2), fun k hk => by
      rw [u2_fr (by omega), u2_fr (by omega), u2_fr (by omega), u2_fr (by omega)]; exact q3 k hk, by
      rw [← q4]; funext k; unfold tc; rw [u2_fr (by omega), u2_fr (by omega)]⟩
  have hU0 : mU (u2 (u2 X 89 43 0) 89 44 0) t [] 0 n := ⟨(u2_fr (by omega)).trans ((u2_fr (by omega)).trans h17), (u2_fr (by omega)).trans u2_at, u2_at, (u2_fr (by omega)).trans ((u2_fr (by omega)).trans h45), trivial, Nat.le_refl _, by omega⟩
  obtain ⟨X', a1, a2⟩ := m_read hN (ρ := ρ) hw hsz ht hT (200 - i) i 0 n 2 N [] _ 1 (by omega) hi (by omega) (by omega) (fun z => absurd z (by omega)) (fun _ => rfl) (by show 0 + n ≤ i; omega) hR0 hU0
  refine ⟨X', ?_, ?_⟩
  · have e : f_X12_eRead_14 N J ρ N (u2 (u2 X 89 43 0) 89 44 0) 1 1 = some (X', if (mr (tT c sz) i [] 0 2).1 = true then 1 else 0) := a1
    unfold f_X12_eRead
    rw [e]
    rfl
  · obtain ⟨b1, b2, b3, b4, b5, b6⟩ := a2
    exact ⟨fun b j z1 z2 z3 => (b1 b j z1 z2 z3).trans ((u2_fr (by omega)).trans (u2_fr (by omega))), b2, b3, b4, b5, b6⟩
def mGf (t n p : Nat) (X X' : Nat → Nat → Int32) : Prop := ∀ b j, ¬ (b = 89 ∧ 37 ≤ j ∧ j ≤ 45) → ¬ b = 111 → ¬ (b = 98 ∧ 200 * t + n ≤ j ∧ j < 200 * t + 200) → ¬ (b = 99 ∧ j = 4 * t + p) → X' b j = X b j
theorem m_round {N : Nat} (hN : 1000 ≤ N) {ρ : Rh} {J : Nat → Nat → Int64} (hw : vWords J) {c : Nat → Nat} {sz t : Nat} (hsz : sz ≤ 160) (ht : t < 6) (hT : ∀ i, 160 ≤ i → tT c sz i = -21) {i n p fuel : Nat} {X : Nat → Nat → Int32} (hp : p ≤ 1) (hi : i ≤ 160) (hn : n ≤ i) (hR : mPo c sz i X) (h17 : X 89 17 = Int32.ofNat t) (h45 : X 89 45 = Int32.ofNat n) : ∃ (X' : Nat → Nat → Int32) (g : Int32), f_X12_text_26 N J ρ (fuel + 1) X 1 (Int32.ofNat p) = f_X12_text_26 N J ρ fuel X' g (Int32.ofNat (p + 1)) ∧ mGf t n p X X' ∧
    ((tT c sz i = (if p = 0 then -16 else -17) ∧ g = (if (mr (tT c sz) (i + 1) [] 0 2).1 = true then 1 else 0) ∧ i < 160 ∧ X' 89 38 = Int32.ofNat (lb c sz (cu c sz (mr (tT c sz) (i + 1) [] 0 2).2.1)) ∧ mPo c sz ((mr (tT c sz) (i + 1) [] 0 2).2.1 + 1) X' ∧ wr t n X' (mr (tT c sz) (i + 1) [] 0 2).2.2 ∧ X' 89 45 = Int32.ofNat (n + (mr (tT c sz) (i + 1) [] 0 2).2.2.length) ∧ n + (mr (tT c sz) (i + 1) [] 0 2).2.2.length ≤ (mr (tT c sz) (i + 1) [] 0 2).2.1 ∧ X' 99 (4 * t + p) = Int32.ofNat n) ∨
     (¬ tT c sz i = (if p = 0 then -16 else -17) ∧ g = 0 ∧ X' 89 38 = Int32.ofNat (lb c sz (cu c sz i)))) := by
  obtain ⟨X1, g1, g2, g3, g4, g5⟩ := m_nx (N := N) (by omega) (ρ := ρ) hw hsz hR
  obtain ⟨_, _, _, _, _, _, _, _, m9⟩ := mtk_iff (tT c sz i)
  have x17 : X1 89 17 = Int32.ofNat t := (g2 89 17 (by omega)).trans h17
  have x45 : X1 89 45 = Int32.ofNat n := (g2 89 45 (by omega)).trans h45
  have nx : ¬ (2 : Int32) ≤ Int32.ofNat p := by rw [fa_le, p_nI (by omega)]; show ¬ (2 : Int) ≤ _; omega
  have hJ : (if X1 89 39 = (3 : Int32) then (if X1 89 40 = Int32.ofNat p then some (1 : Int32) else some (0 : Int32)) else some (0 : Int32)) = some (if tT c sz i = (if p = 0 then -16 else -17) then (1 : Int32) else 0) := by
    have hp2 : p = 0 ∨ p = 1 := by omega
    by_cases a6 : tT c sz i = -16
    · have e39 : X1 89 39 = 3 := by rw [g5.1, a6]; rfl
      have e40 : X1 89 40 = 0 := by rw [g5.2 (.inr (.inl a6)), a6]; rfl
      rw [if_pos e39, e40, a6]
      rcases hp2 with h | h <;> subst h <;> rfl
    by_cases a7 : tT c sz i = -17
    · have e39 : X1 89 39 = 3 := by rw [g5.1, a7]; rfl
      have e40 : X1 89 40 = 1 := by rw [g5.2 (.inr (.inr (.inl a7))), a7]; rfl
      rw [if_pos e39, e40, a7]
      rcases hp2 with h | h <;> subst h <;> rfl
    rw [if_neg (by rw [g5.1]; intro z; rcases m9.mp z with y | y; exact a6 y; exact a7 y), if_neg (by split; exact a6; exact a7)]
  have base : f_X12_text_26 N J ρ (fuel + 1) X 1 (Int32.ofNat p) = (Option.bind (if (if tT c sz i = (if p = 0 then -16 else -17) then (1 : Int32) else 0) = (0 : Int32) then some ((0 : Int32), u2 X1 99 (4 * t + p) (Int32.ofNat n)) else (Option.bind (f_X12_eRead N ρ (u2 X1 99 (4 * t + p) (Int32.ofNat n)) J) fun v7 => (if (v7.2 = (0 : Int32)) then some ((0 : Int32), v7.1) else some ((1 : Int32), v7.1)))) fun j8 => f_X12_text_26 N J ρ fuel j8.2 j8.1 (Int32.ofNat (p + 1))) := by
    rw [f_X12_text_26.eq_2, if_neg nx, if_neg (by decide), g1]
    simp only [Option.bind_some]
    rw [hJ]
    simp only [Option.bind_some]
    rw [x17, x45, p_lin4 (by omega), if_pos (p_ixn (by omega) (by omega)), p_tnI (by omega), p_succ (by omega)]
  have F1 : mGf t n p X (u2 X1 99 (4 * t + p) (Int32.ofNat n)) := fun b j z1 z2 z3 z4 => (u2_fr (by omega)).trans (g2 b j (by omega))
  rw [base]
  by_cases q : tT c sz i = (if p = 0 then -16 else -17)
  · have hlt : i < 160 := no_end hT (by rw [q]; split <;> decide)
    obtain ⟨r1, r2, r3, r4⟩ := g3
    have hR2 : mPo c sz (i + 1) (u2 X1 99 (4 * t + p) (Int32.ofNat n)) := ⟨(u2_fr (by omega)).trans r1, (u2_fr (by omega)).trans r2, fun k hk => by
      rw [u2_fr (by omega), u2_fr (by omega)]; exact r3 k hk, by
      rw [← r4]; funext k; unfold tc; rw [u2_fr (by omega)]⟩
    obtain ⟨X3, a1, b1, b2, b3, b4, b5, b6⟩ := m_eRead hN (ρ := ρ) hw hsz ht hT (i := i + 1) (n := n) (by omega) (by omega) hR2 ((u2_fr (by omega)).trans x17) ((u2_fr (by omega)).trans x45)
    refine ⟨X3, (if (mr (tT c sz) (i + 1) [] 0 2).1 = true then 1 else 0), ?_, fun b j z1 z2 z3 z4 => (b1 b j z1 z2 z3).trans (F1 b j z1 z2 z3 z4), .inl ⟨q, rfl, hlt, b4, b5, b2, b3, b6, (b1 99 _ (by omega) (by omega) (by omega)).trans u2_at⟩⟩
    rw [if_pos q, if_neg (by decide), a1]
    simp only [Option.bind_some]
    by_cases ok : (mr (tT c sz) (i + 1) [] 0 2).1 = true
    · simp only [if_pos ok]
      rw [if_neg (by decide)]
      rfl
    · simp only [if_neg ok]
      rw [if_pos trivial]
      rfl
  · refine ⟨u2 X1 99 (4 * t + p) (Int32.ofNat n), 0, ?_, F1, .inr ⟨q, rfl, (u2_fr (by omega)).trans g4⟩⟩
    rw [if_neg q, if_pos rfl]
    rfl
