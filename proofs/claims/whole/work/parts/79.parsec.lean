/-! ===== the pure layer: the class's reading is the pure one ===== -/
theorem cQ.pre {c : Nat → Nat} {sz len : Nat} {I0 I I' : Nat → Nat → Int32} {r : Bool × Nat × List Int32} (hF : ∀ b j, ¬ (b = 35 ∧ (j = 5 ∨ j = 6 ∨ j = 7)) → I b j = I0 b j) (h : cQ c sz I I' len r) : cQ c sz I0 I' len r :=
  ⟨h.1, fun b j z1 z2 => (h.2.1 b j z1 z2).trans (hF b j (by omega)), h.2.2⟩
theorem cQ.none {c : Nat → Nat} {sz len i : Nat} {I : Nat → Nat → Int32} {b : Bool} (h : cP c sz I i len) : cQ c sz I I len (b, i, []) :=
  ⟨h, fun _ _ _ _ => rfl, fun j hj => absurd hj (by show ¬ j < 0; omega)⟩
theorem getD_app {a b : List Int32} {j : Nat} : (a ++ b).getD j 0 = if j < a.length then a.getD j 0 else b.getD (j - a.length) 0 := by
  by_cases h : j < a.length
  · rw [if_pos h, List.getD_eq_getElem?_getD, List.getD_eq_getElem?_getD, List.getElem?_append_left h]
  · rw [if_neg h, List.getD_eq_getElem?_getD, List.getD_eq_getElem?_getD, List.getElem?_append_right (by omega)]
theorem cQ.trans {c : Nat → Nat} {sz len : Nat} {I I1 I2 : Nat → Nat → Int32} {b1 b2 : Bool} {j1 j2 : Nat} {c1 c2 : List Int32} (h : cQ c sz I I1 len (b1, j1, c1)) (k : cQ c sz I1 I2 (len + c1.length) (b2, j2, c2)) (b : Bool) : cQ c sz I I2 len (b, j2, c1 ++ c2) := by
  obtain ⟨h1, h2, h3⟩ := h
  obtain ⟨k1, k2, k3⟩ := k
  refine ⟨?_, fun q j z1 z2 => (k2 q j z1 (by omega)).trans (h2 q j z1 z2), fun j hj => ?_⟩
  · show cP c sz I2 j2 (len + (c1 ++ c2).length)
    rw [List.length_append, ← Nat.add_assoc]
    exact k1
  · have hj : j < (c1 ++ c2).length := hj
    rw [List.length_append] at hj
    show I2 37 (len + j) = (c1 ++ c2).getD j 0
    rw [getD_app]
    by_cases q : j < c1.length
    · rw [if_pos q, k2 37 _ (by omega) (by omega)]
      exact h3 j q
    · rw [if_neg q]
      have := k3 (j - c1.length) (by show j - c1.length < c2.length; omega)
      rw [show len + c1.length + (j - c1.length) = len + j by omega] at this
      exact this
theorem cQ.put {N : Nat} {ρ : Rh} {J : Nat → Nat → Int64} {c : Nat → Nat} {sz len : Nat} {I I1 : Nat → Nat → Int32} {b1 : Bool} {j1 : Nat} {c1 : List Int32} (hsz : sz ≤ 160) (h : cQ c sz I I1 len (b1, j1, c1)) (hlt : len + c1.length < j1) (v : Int32) (b : Bool) : ∃ I2, f_X8_put N ρ I1 J v = some (I2, 1) ∧ cQ c sz I I2 len (b, j1, c1 ++ [v]) := by
  obtain ⟨p1, p2⟩ := c_put (N := N) (ρ := ρ) (J := J) hsz h.1 hlt v
  have hF : cQ c sz I1 (u2 (u2 I1 37 (len + c1.length) v) 35 3 (Int32.ofNat (len + c1.length + 1))) (len + c1.length) (true, j1, [v]) := by
    refine ⟨p2, fun q j z1 z2 => (u2_fr (by omega)).trans (u2_fr (by omega)), fun j hj => ?_⟩
    have : j = 0 := by have : j < 1 := hj; omega
    subst this
    rw [u2_fr (by omega), Nat.add_zero, u2_at]
    rfl
  exact ⟨_, p1, h.trans hF b⟩
theorem tg_end {t : Nat} (h : t ≤ 4) {s : Int32} (hs : tg s = Int32.ofNat t) : ¬ s = -21 := by
  intro z
  rw [z] at hs
  have := congrArg Int32.toInt hs
  rw [p_nI (by omega)] at this
  have e : (tg (-21)).toInt = -1 := by decide
  omega
theorem c_lsg {N : Nat} (hN : 200 ≤ N) {ρ : Rh} {J : Nat → Nat → Int64} {c : Nat → Nat} {sz t o lim : Nat} (hsz : sz ≤ 160) (ht : t ≤ 4) (ho : o ≤ 5) {R : Bool → (Nat → Nat → Int32) → Int32 → Int32 → Option ((Nat → Nat → Int32) × Int32)} {P : Nat → Bool × Nat × List Int32} (hlim : lim ≤ 160)
    (hR : ∀ (i len : Nat) (I : Nat → Nat → Int32), cP c sz I i len → ∃ I', R false I (Int32.ofNat (t + 1)) (Int32.ofNat o) = some (I', if (P i).1 = true then 1 else 0) ∧ cQ c sz I I' len (P i) ∧ (P i).2.2.length + i ≤ (P i).2.1) : ∀ (n k i fuel len : Nat) (I : Nat → Nat → Int32), k + n = lim → n < fuel → cP c sz I i len → ∃ I', f_X8_level_94 N J ρ (Int32.ofNat t) (Int32.ofNat o) (Int32.ofNat lim) R fuel I (Int32.ofNat k) = some (if (lsg (tT c sz) P t n i).1 = true then Sum.inr I' else Sum.inl (I', 0)) ∧ cQ c sz I I' len (lsg (tT c sz) P t n i) ∧ (lsg (tT c sz) P t n i).2.2.length + i ≤ (lsg (tT c sz) P t n i).2.1
  | 0, k, i, fuel + 1, len, I, z1, z2, h => by
    refine ⟨I, ?_, cQ.none h, by show 0 + i ≤ i; omega⟩
    rw [f_X8_level_94.eq_2, if_pos ((p_ge (by omega) (by omega)).mpr (by omega))]
    rfl
  | n + 1, k, i, fuel + 1, len, I, z1, z2, h => by
    have base : ∀ T, (if tg (tT c sz i) = Int32.ofNat t then (Option.bind (f_X8_next N ρ I J) fun v11 => (Option.bind (R false v11 (Int32.ofNat (t + 1)) (Int32.ofNat o)) fun v12 => (if (v12.2 = (0)) then some (Sum.inl (v12.1, (0))) else (Option.bind (f_X8_put N ρ v12.1 J (tT c sz i)) fun v13 => (if (v13.2 = (0)) then some (Sum.inl (v13.1, (0))) else f_X8_level_94 N J ρ (Int32.ofNat t) (Int32.ofNat o) (Int32.ofNat lim) R fuel v13.1 (Int32.ofNat (k + 1))))))) else some (Sum.inr I)) = T → f_X8_level_94 N J ρ (Int32.ofNat t) (Int32.ofNat o) (Int32.ofNat lim) R (fuel + 1) I (Int32.ofNat k) = T := by
      intro T hT
      rw [f_X8_level_94.eq_2, if_neg (fun z => absurd ((p_ge (by omega) (by omega)).mp z) (by omega)), c_tg, h.1]
      simp only [Option.bind_some]
      rw [p_succ (by omega), p_succ (by omega)]
      exact hT
    by_cases hs : tg (tT c sz i) = Int32.ofNat t
    · obtain ⟨I1, a1, a2, a3⟩ := c_adv hN (ρ := ρ) (J := J) hsz h (tg_end ht hs)
      obtain ⟨I2, b1, b2, b3⟩ := hR (i + 1) len I1 a2
      have b2' := b2.pre a3
      have e0 : lsg (tT c sz) P t (n + 1) i = (if (P (i + 1)).1 = true then ((lsg (tT c sz) P t n (P (i + 1)).2.1).1, (lsg (tT c sz) P t n (P (i + 1)).2.1).2.1, (P (i + 1)).2.2 ++ (tT c sz i :: (lsg (tT c sz) P t n (P (i + 1)).2.1).2.2)) else (false, (P (i + 1)).2.1, (P (i + 1)).2.2)) := by
        show (if tg (tT c sz i) = Int32.ofNat t then _ else _) = _
        rw [if_pos hs]
      have h9 := h.2.2.2.2.2.2.2.2
      by_cases hp : (P (i + 1)).1 = true
      · rw [if_pos hp] at e0 b1
        obtain ⟨I3, p1, p2⟩ := cQ.put (N := N) (ρ := ρ) (J := J) (b1 := (P (i + 1)).1) (j1 := (P (i + 1)).2.1) (c1 := (P (i + 1)).2.2) hsz b2' (by omega) (tT c sz i) true
        have p2' : cP c sz I3 (P (i + 1)).2.1 (len + ((P (i + 1)).2.2 ++ [tT c sz i]).length) := p2.1
        obtain ⟨I4, q1, q2, q3⟩ := c_lsg hN (ρ := ρ) (J := J) hsz ht ho hlim hR n (k + 1) (P (i + 1)).2.1 fuel _ I3 (by omega) (by omega) p2'
        have hcat : (P (i + 1)).2.2 ++ (tT c sz i :: (lsg (tT c sz) P t n (P (i + 1)).2.1).2.2) = ((P (i + 1)).2.2 ++ [tT c sz i]) ++ (lsg (tT c sz) P t n (P (i + 1)).2.1).2.2 := by rw [List.append_assoc]; rfl
        refine ⟨I4, base _ ?_, ?_, ?_⟩
        · rw [if_pos hs, a1]
          simp only [Option.bind_some]
          rw [b1]
          simp only [Option.bind_some]
          rw [if_neg (by decide), p1]
          simp only [Option.bind_some]
          rw [if_neg (by decide), q1, e0]
        · rw [e0, hcat]
          exact p2.trans (b2 := (lsg (tT c sz) P t n (P (i + 1)).2.1).1) (j2 := (lsg (tT c sz) P t n (P (i + 1)).2.1).2.1) (c2 := (lsg (tT c sz) P t n (P (i + 1)).2.1).2.2) q2 _
        · rw [e0, hcat]
          show (((P (i + 1)).2.2 ++ [tT c sz i]) ++ (lsg (tT c sz) P t n (P (i + 1)).2.1).2.2).length + i ≤ _
          rw [List.length_append, List.length_append]
          show (P (i + 1)).2.2.length + 1 + _ + i ≤ (lsg (tT c sz) P t n (P (i + 1)).2.1).2.1
          omega
      · rw [if_neg hp] at e0 b1
        refine ⟨I2, base _ ?_, ?_, ?_⟩
        · rw [if_pos hs, a1]
          simp only [Option.bind_some]
          rw [b1]
          simp only [Option.bind_some]
          rw [if_pos trivial, e0]
          rfl
        · rw [e0]
          exact b2'
        · rw [e0]
          show (P (i + 1)).2.2.length + i ≤ (P (i + 1)).2.1
          omega
    · have e0 : lsg (tT c sz) P t (n + 1) i = (true, i, []) := by
        show (if tg (tT c sz i) = Int32.ofNat t then _ else _) = _
        rw [if_neg hs]
      refine ⟨I, base _ ?_, ?_, ?_⟩
      · rw [if_neg hs, e0]; rfl
      · rw [e0]; exact cQ.none h
      · rw [e0]; show 0 + i ≤ i; omega
theorem c_lvp {N : Nat} (hN : 200 ≤ N) {ρ : Rh} {J : Nat → Nat → Int64} {c : Nat → Nat} {sz : Nat} (hsz : sz ≤ 160) : ∀ (f : Nat), (∀ (i o len : Nat) (I : Nat → Nat → Int32) (x : Int32), 7 * (5 - o) + 1 ≤ f → o ≤ 5 → cP c sz I i len → ∃ I', f_lv N ρ J f true I (Int32.ofNat o) x = some (I', if (lvp (tT c sz) f true i 0 o).1 = true then 1 else 0) ∧ cQ c sz I I' len (lvp (tT c sz) f true i 0 o) ∧ (lvp (tT c sz) f true i 0 o).2.2.length + i ≤ (lvp (tT c sz) f true i 0 o).2.1) ∧ (∀ (i t o len : Nat) (I : Nat → Nat → Int32), 7 * (5 - o) + (7 - t) ≤ f → t ≤ 5 → o ≤ 5 → cP c sz I i len → ∃ I', f_lv N ρ J f false I (Int32.ofNat t) (Int32.ofNat o) = some (I', if (lvp (tT c sz) f false i t o).1 = true then 1 else 0) ∧ cQ c sz I I' len (lvp (tT c sz) f false i t o) ∧ (lvp (tT c sz) f false i t o).2.2.length + i ≤ (lvp (tT c sz) f false i t o).2.1)
  | 0 => ⟨fun i o len I x h => absurd h (by omega), fun i t o len I h h5 => absurd h (by omega)⟩
  | f + 1 => by
    obtain ⟨ih1, ih2⟩ := c_lvp hN (ρ := ρ) (J := J) (c := c) hsz f
    constructor
    · intro i o len I x hf ho h
      have h9 := h.2.2.2.2.2.2.2.2
      show ∃ I', f_X8_one (f_lv N ρ J f) N ρ I J (Int32.ofNat o) = _ ∧ _
      unfold f_X8_one
      rw [h.1]
      by_cases c6 : -6 ≤ (tT c sz i).toInt
      · have e0 : lvp (tT c sz) (f + 1) true i 0 o = (true, i + 1, [tT c sz i]) := by
          show (if -6 ≤ (tT c sz i).toInt then _ else _) = _
          rw [if_pos c6]
        obtain ⟨I1, a1, a2, a3⟩ := c_adv hN (ρ := ρ) (J := J) hsz h (by intro z; rw [z] at c6; exact absurd c6 (by decide))
        obtain ⟨I2, p1, p2⟩ := cQ.put (N := N) (ρ := ρ) (J := J) hsz ((cQ.none (b := true) a2).pre a3) (by show len + 0 < i + 1; omega) (tT c sz i) true
        refine ⟨I2, ?_, by rw [e0]; exact p2, by rw [e0]; show 1 + i ≤ i + 1; omega⟩
        rw [if_neg (by rw [fa_lt]; show ¬ _ < (-6 : Int); omega), a1]
        simp only [Option.bind_some]
        rw [p1, e0]
        rfl
      have hlt : tT c sz i < -6 := by rw [fa_lt]; show _ < (-6 : Int); omega
      rw [if_pos hlt]
      by_cases c14 : tT c sz i = -14
      · rw [if_pos c14]
        by_cases c5 : 5 ≤ o
        · have e0 : lvp (tT c sz) (f + 1) true i 0 o = (false, i, []) := by
            show (if -6 ≤ (tT c sz i).toInt then _ else if tT c sz i = -14 then (if 5 ≤ o then _ else _) else _) = _
            rw [if_neg c6, if_pos c14, if_pos c5]
          refine ⟨I, ?_, by rw [e0]; exact cQ.none h, by rw [e0]; show 0 + i ≤ i; omega⟩
          rw [if_pos (by rw [fa_le, p_nI (by omega)]; show (5 : Int) ≤ _; omega), e0]
          rfl
        · obtain ⟨q, hq⟩ : ∃ q, q = lvp (tT c sz) f true (i + 1) 0 (o + 1) := ⟨_, rfl⟩
          have e0 : lvp (tT c sz) (f + 1) true i 0 o = (q.1, q.2.1, if q.1 = true then q.2.2 ++ [-7] else q.2.2) := by
            show (if -6 ≤ (tT c sz i).toInt then _ else if tT c sz i = -14 then (if 5 ≤ o then _ else _) else _) = _
            rw [if_neg c6, if_pos c14, if_neg c5, hq]
          obtain ⟨I1, a1, a2, a3⟩ := c_skip hN (ρ := ρ) (J := J) hsz h (w := -14) (by decide)
          rw [if_pos c14] at a1 a2
          obtain ⟨I2, b1, b2, b3⟩ := ih1 (i + 1) (o + 1) len I1 0 (by omega) (by omega) a2
          rw [← hq] at b1 b2 b3
          have b2' := b2.pre a3
          rw [if_neg (by rw [fa_le, p_nI (by omega)]; show ¬ (5 : Int) ≤ _; omega), a1]
          simp only [Option.bind_some]
          rw [if_neg (by decide), p_succ (by omega), b1]
          simp only [Option.bind_some]
          by_cases hp : q.1 = true
          · rw [if_pos hp] at e0 b1
            obtain ⟨I3, p1, p2⟩ := cQ.put (N := N) (ρ := ρ) (J := J) (b1 := q.1) (j1 := q.2.1) (c1 := q.2.2) hsz b2' (by omega) (-7) q.1
            refine ⟨I3, ?_, by rw [e0]; exact p2, by rw [e0]; show (q.2.2 ++ [-7]).length + i ≤ q.2.1; rw [List.length_append]; show q.2.2.length + 1 + i ≤ _; omega⟩
            rw [if_pos hp, if_neg (by decide), p1]
            simp only [Option.bind_some]
            rw [if_neg (by decide), e0]
            show _ = some (I3, if q.1 = true then 1 else 0)
            rw [if_pos hp]
          · rw [if_neg hp] at e0
            refine ⟨I2, ?_, by rw [e0]; exact b2', by rw [e0]; show q.2.2.length + i ≤ q.2.1; omega⟩
            rw [if_neg hp, if_pos rfl, e0]
            show _ = some (I2, if q.1 = true then 1 else 0)
            rw [if_neg hp]
      rw [if_neg c14]
      by_cases c18 : tT c sz i = -18
      · rw [if_pos c18]
        by_cases c5 : 5 ≤ o
        · have e0 : lvp (tT c sz) (f + 1) true i 0 o = (false, i, []) := by
            show (if -6 ≤ (tT c sz i).toInt then _ else if tT c sz i = -14 then _ else if tT c sz i = -18 then (if 5 ≤ o then _ else _) else _) = _
            rw [if_neg c6, if_neg c14, if_pos c18, if_pos c5]
          refine ⟨I, ?_, by rw [e0]; exact cQ.none h, by rw [e0]; show 0 + i ≤ i; omega⟩
          rw [if_pos (by rw [fa_le, p_nI (by omega)]; show (5 : Int) ≤ _; omega), e0]
          rfl
        · obtain ⟨q, hq⟩ : ∃ q, q = lvp (tT c sz) f false (i + 1) 0 (o + 1) := ⟨_, rfl⟩
          have e0 : lvp (tT c sz) (f + 1) true i 0 o = (if q.1 = true then (if tT c sz q.2.1 = -19 then (true, q.2.1 + 1, q.2.2) else (false, q.2)) else q) := by
            show (if -6 ≤ (tT c sz i).toInt then _ else if tT c sz i = -14 then _ else if tT c sz i = -18 then (if 5 ≤ o then _ else _) else _) = _
            rw [if_neg c6, if_neg c14, if_pos c18, if_neg c5, hq]
          obtain ⟨I1, a1, a2, a3⟩ := c_skip hN (ρ := ρ) (J := J) hsz h (w := -18) (by decide)
          rw [if_pos c18] at a1 a2
          obtain ⟨I2, b1, b2, b3⟩ := ih2 (i + 1) 0 (o + 1) len I1 (by omega) (by omega) (by omega) a2
          rw [← hq] at b1 b2 b3
          have b2' := b2.pre a3
          rw [if_neg (by rw [fa_le, p_nI (by omega)]; show ¬ (5 : Int) ≤ _; omega), a1]
          simp only [Option.bind_some]
          rw [if_neg (by decide), p_succ (by omega)]
          rw [show Int32.ofNat 0 = (0 : Int32) from rfl] at b1
          rw [b1]
          simp only [Option.bind_some]
          by_cases hp : q.1 = true
          · rw [if_pos hp] at e0
            obtain ⟨I3, d1, d2, d3⟩ := c_skip hN (ρ := ρ) (J := J) hsz b2'.1 (w := -19) (by decide)
            by_cases c19 : tT c sz q.2.1 = -19
            · rw [if_pos c19] at e0 d1 d2
              refine ⟨I3, ?_, ?_, by rw [e0]; show q.2.2.length + i ≤ q.2.1 + 1; omega⟩
              · rw [if_pos hp, if_neg (by decide), d1]
                simp only [Option.bind_some]
                rw [if_neg (by decide), e0]
                rfl
              · rw [e0]
                exact ⟨d2, fun b j z1 z2 => (d3 b j (by omega)).trans (b2'.2.1 b j z1 z2), fun j hj => (d3 37 _ (by omega)).trans (b2'.2.2 j hj)⟩
            · rw [if_neg c19] at e0 d1 d2
              refine ⟨I3, ?_, ?_, by rw [e0]; show q.2.2.length + i ≤ q.2.1; omega⟩
              · rw [if_pos hp, if_neg (by decide), d1]
                simp only [Option.bind_some]
                rw [if_pos trivial, e0]
                rfl
              · rw [e0]
                exact ⟨d2, fun b j z1 z2 => (d3 b j (by omega)).trans (b2'.2.1 b j z1 z2), fun j hj => (d3 37 _ (by omega)).trans (b2'.2.2 j hj)⟩
          · rw [if_neg hp] at e0
            refine ⟨I2, ?_, by rw [e0]; exact b2', by rw [e0]; omega⟩
            rw [if_neg hp, if_pos rfl, e0, if_neg hp]
      · rw [if_neg c18]
        have e0 : lvp (tT c sz) (f + 1) true i 0 o = (false, i, []) := by
          show (if -6 ≤ (tT c sz i).toInt then _ else if tT c sz i = -14 then _ else if tT c sz i = -18 then _ else (false, i, [])) = _
          rw [if_neg c6, if_neg c14, if_neg c18]
        refine ⟨I, ?_, by rw [e0]; exact cQ.none h, by rw [e0]; show 0 + i ≤ i; omega⟩
        rw [e0]
        rfl
    · intro i t o len I hf ht5 ho h
      have h9 := h.2.2.2.2.2.2.2.2
      show ∃ I', f_X8_level (f_lv N ρ J f) N ρ I J (Int32.ofNat t) (Int32.ofNat o) = _ ∧ _
      unfold f_X8_level
      by_cases t4 : t ≤ 4
      · rw [if_pos (by rw [fa_le, p_nI (by omega)]; show _ ≤ (4 : Int); omega)]
        have two : (Int32.ofNat t = 2) ↔ t = 2 := ⟨fun z => by have := congrArg Int32.toInt z; rw [p_nI (by omega)] at this; have e : (2 : Int32).toInt = 2 := rfl; omega, fun z => by rw [z]; rfl⟩
        by_cases cn : t = 2 ∧ tT c sz i = -8
        · rw [if_pos (two.mpr cn.1), h.1, if_pos cn.2]
          by_cases c5 : 5 ≤ o
          · have e0 : lvp (tT c sz) (f + 1) false i t o = (false, i, []) := by
              show (if t ≤ 4 then (if t = 2 ∧ tT c sz i = -8 then (if 5 ≤ o then _ else _) else _) else _) = _
              rw [if_pos t4, if_pos cn, if_pos c5]
            refine ⟨I, ?_, by rw [e0]; exact cQ.none h, by rw [e0]; show 0 + i ≤ i; omega⟩
            rw [if_pos (by rw [fa_le, p_nI (by omega)]; show (5 : Int) ≤ _; omega), e0]
            rfl
          · obtain ⟨q, hq⟩ : ∃ q, q = lvp (tT c sz) f false (i + 1) 2 (o + 1) := ⟨_, rfl⟩
            have e0 : lvp (tT c sz) (f + 1) false i t o = (q.1, q.2.1, if q.1 = true then q.2.2 ++ [-8] else q.2.2) := by
              show (if t ≤ 4 then (if t = 2 ∧ tT c sz i = -8 then (if 5 ≤ o then _ else _) else _) else _) = _
              rw [if_pos t4, if_pos cn, if_neg c5, hq]
            obtain ⟨I1, a1, a2, a3⟩ := c_skip hN (ρ := ρ) (J := J) hsz h (w := -8) (by decide)
            rw [if_pos cn.2] at a1 a2
            obtain ⟨I2, b1, b2, b3⟩ := ih2 (i + 1) 2 (o + 1) len I1 (by omega) (by omega) (by omega) a2
            rw [← hq] at b1 b2 b3
            have b2' := b2.pre a3
            rw [if_neg (by rw [fa_le, p_nI (by omega)]; show ¬ (5 : Int) ≤ _; omega), a1]
            simp only [Option.bind_some]
            rw [if_neg (by decide), p_succ (by omega)]
            rw [show Int32.ofNat 2 = (2 : Int32) from rfl] at b1
            rw [b1]
            simp only [Option.bind_some]
            by_cases hp : q.1 = true
            · rw [if_pos hp] at e0
              obtain ⟨I3, p1, p2⟩ := cQ.put (N := N) (ρ := ρ) (J := J) (b1 := q.1) (j1 := q.2.1) (c1 := q.2.2) hsz b2' (by omega) (-8) q.1
              refine ⟨I3, ?_, by rw [e0]; exact p2, by rw [e0]; show (q.2.2 ++ [-8]).length + i ≤ q.2.1; rw [List.length_append]; show q.2.2.length + 1 + i ≤ _; omega⟩
              rw [if_pos hp, if_neg (by decide), p1]
              simp only [Option.bind_some]
              rw [if_neg (by decide), e0]
              show _ = some (I3, if q.1 = true then 1 else 0)
              rw [if_pos hp]
              rfl
            · rw [if_neg hp] at e0
              refine ⟨I2, ?_, by rw [e0]; exact b2', by rw [e0]; show q.2.2.length + i ≤ q.2.1; omega⟩
              rw [if_neg hp, if_pos rfl, e0]
              show _ = some (I2, if q.1 = true then 1 else 0)
              rw [if_neg hp]
              rfl
        · have j5 : (if Int32.ofNat t = 2 then (if I 35 5 = -8 then (if 5 ≤ Int32.ofNat o then some (Sum.inl (I, (0 : Int32))) else (Option.bind (f_X8_skip N ρ I J (-8)) fun v2 => (if (v2.2 = (0)) then some (Sum.inl (v2.1, (0))) else (Option.bind (f_lv N ρ J f false v2.1 (2) (Int32.ofNat o + (1))) fun v3 => (if (v3.2 = (0)) then some (Sum.inl (v3.1, (0))) else (Option.bind (f_X8_put N ρ v3.1 J (-8)) fun v4 => (if (v4.2 = (0)) then some (Sum.inl (v4.1, (0))) else some (Sum.inl (v4.1, (1)))))))))) else some (Sum.inr ())) else some (Sum.inr ())) = (some (Sum.inr ()) : Option (((Nat → Nat → Int32) × Int32) ⊕ Unit)) := by
            by_cases q2 : t = 2
            · rw [if_pos (two.mpr q2), h.1, if_neg (fun z => cn ⟨q2, z⟩)]
            · rw [if_neg (fun z => q2 (two.mp z))]
          rw [j5]
          simp only [Option.bind_some, scase_r]
          obtain ⟨q, hq⟩ : ∃ q, q = lvp (tT c sz) f false i (t + 1) o := ⟨_, rfl⟩
          obtain ⟨lim, hlim⟩ : ∃ lim : Nat, lim = if t = 2 then 1 else 160 := ⟨_, rfl⟩
          obtain ⟨s, hs⟩ : ∃ s, s = lsg (tT c sz) (fun i => lvp (tT c sz) f false i (t + 1) o) t lim q.2.1 := ⟨_, rfl⟩
          have e0 : lvp (tT c sz) (f + 1) false i t o = (if q.1 = true then (s.1, s.2.1, q.2.2 ++ s.2.2) else q) := by
            show (if t ≤ 4 then (if t = 2 ∧ tT c sz i = -8 then _ else _) else _) = _
            rw [if_pos t4, if_neg cn, hs, hlim, hq]
          obtain ⟨I1, b1, b2, b3⟩ := ih2 i (t + 1) o len I (by omega) (by omega) ho h
          rw [← hq] at b1 b2 b3
          rw [p_succ (by omega), b1]
          simp only [Option.bind_some]
          by_cases hp : q.1 = true
          · rw [if_pos hp] at e0
            have hl160 : lim ≤ 160 := by rw [hlim]; split <;> omega
            obtain ⟨I2, d1, d2, d3⟩ := c_lsg hN (ρ := ρ) (J := J) (c := c) (t := t) (o := o) (lim := lim) hsz t4 ho (R := f_lv N ρ J f) (P := fun i => lvp (tT c sz) f false i (t + 1) o) hl160 (fun i len I hh => ih2 i (t + 1) o len I (by omega) (by omega) ho hh) lim 0 q.2.1 N (len + q.2.2.length) I1 (by omega) (by omega) b2.1
            rw [← hs] at d1 d2 d3
            have jl : (if Int32.ofNat t = 2 then some (1 : Int32) else some 160) = some (Int32.ofNat lim) := by
              rw [hlim]
              by_cases q2 : t = 2
              · rw [if_pos (two.mpr q2), if_pos q2]; rfl
              · rw [if_neg (fun z => q2 (two.mp z)), if_neg q2]; rfl
            refine ⟨I2, ?_, ?_, ?_⟩
            · rw [if_pos hp, if_neg (by decide), jl]
              simp only [Option.bind_some]
              rw [show Int32.ofNat 0 = (0 : Int32) from rfl] at d1
              rw [d1]
              simp only [Option.bind_some]
              rw [e0]
              show _ = some (I2, if s.1 = true then 1 else 0)
              by_cases hsv : s.1 = true
              · rw [if_pos hsv, if_pos hsv]
              · rw [if_neg hsv, if_neg hsv]
            · rw [e0]
              exact cQ.trans (b1 := q.1) (j1 := q.2.1) (c1 := q.2.2) (b2 := s.1) (j2 := s.2.1) (c2 := s.2.2) b2 d2 s.1
            · rw [e0]
              show (q.2.2 ++ s.2.2).length + i ≤ s.2.1
              rw [List.length_append]
              omega
          · rw [if_neg hp] at e0
            refine ⟨I1, ?_, by rw [e0]; exact b2, by rw [e0]; omega⟩
            rw [if_neg hp, if_pos rfl, e0, if_neg hp]
      · rw [if_neg (by rw [fa_le, p_nI (by omega)]; show ¬ _ ≤ (4 : Int); omega)]
        have e0 : lvp (tT c sz) (f + 1) false i t o = lvp (tT c sz) f true i 0 o := by
          show (if t ≤ 4 then _ else lvp (tT c sz) f true i 0 o) = _
          rw [if_neg t4]
        obtain ⟨I1, b1, b2, b3⟩ := ih1 i o len I 0 (by omega) ho h
        refine ⟨I1, ?_, by rw [e0]; exact b2, by rw [e0]; exact b3⟩
        rw [b1, e0]
        rfl
