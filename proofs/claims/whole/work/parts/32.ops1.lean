/-! ===== the pure layer: the plain calls ===== -/
theorem scase_l {α β γ : Type} (a : α) (f : α → γ) (g : β → γ) : scase (Sum.inl a) f g = f a := rfl
theorem scase_r {α β γ : Type} (b : β) (f : α → γ) (g : β → γ) : scase (Sum.inr b) f g = g b := rfl
theorem ocase_no {α β : Type} (n : β) (s : α → β) : ocase none n s = n := rfl
theorem ocase_so {α β : Type} (a : α) (n : β) (s : α → β) : ocase (some a) n s = s a := rfl
theorem p_ix {a : Int32} {n : Nat} (h0 : 0 ≤ a.toInt) (h1 : a.toInt < n) : ¬ (a < 0 ∨ n ≤ tn a) := by
  rw [fa_lt, p_tn]
  have : (0 : Int32).toInt = 0 := rfl
  omega
theorem p_tnc (a : Int32) (h : 0 ≤ a.toInt) : ((tn a : Nat) : Int) = a.toInt := by rw [p_tn]; omega
theorem c_exch {N : Nat} {ρ : Rh} {I : Nat → Nat → Int32} {J : Nat → Nat → Int64} {a n : Nat} {i v : Int32} (hk : ρ.2.1 a = (1, n)) (h0 : 0 ≤ i.toInt) (h1 : i.toInt < n) : f_X11_exchange N ρ I J a i v = some (u2 I a (tn i) v, I a (tn i)) := by
  unfold f_X11_exchange
  rw [hk]
  rw [if_pos rfl, if_pos (p_ix h0 h1), if_pos (p_ix h0 h1)]
theorem op_man {ρ : Rh} {I : Nat → Nat → Int32} {J : Nat → Nat → Int64} (N : Nat) (h : Inv ρ I J) (a b : Int32) : ∃ I1 v I2, f_X11_man N ρ I J a b = some (I1, v) ∧ f_X12_man N ρ I1 J a b = some (I2, v) ∧ Inv ρ I2 J ∧ (v.toInt = -2 ∨ v.toInt = -4 ∨ 0 ≤ v.toInt) := by
  obtain ⟨sh, hm, ht, hd, hp, hs, hr, hl, hf, hi, hw⟩ := id h
  obtain ⟨m1, m2, m3, m4, m5⟩ := id hm
  unfold bw at m2
  by_cases hb : 1 ≤ a.toInt ∧ a.toInt ≤ 99 ∧ 0 ≤ b.toInt ∧ b.toInt ≤ 9
  · by_cases h8 : (I 89 0).toInt = 8
    · refine ⟨I, -4, I, ?_, ?_, h, Or.inr (Or.inl rfl)⟩
      · simp only [f_X11_man, c_isStore, c_isRows, m1, Option.bind_some, p_b01, p_b11, fa_lt, fa_le, fa_eq, Int32.reduceToInt, scase_l, scase_r, ocase_no, ocase_so, bnd, reduceIte, Int.reduceEq, Int.reduceLT, Int.reduceLE, not_true_eq_false, not_false_eq_true]
        repeat' (first | (simp only [f_X11_man, c_isStore, c_isRows, m1, Option.bind_some, p_b01, p_b11, fa_lt, fa_le, fa_eq, Int32.reduceToInt, scase_l, scase_r, ocase_no, ocase_so, bnd, reduceIte, Int.reduceEq, Int.reduceLT, Int.reduceLE, not_true_eq_false, not_false_eq_true]) | (split <;> first | (exfalso; omega) | skip))
        all_goals (first | rfl | omega | contradiction | skip)

      · simp only [f_X12_man, m_in, Option.bind_some, p_b01, p_b11, fa_lt, fa_le, fa_eq, Int32.reduceToInt, scase_l, scase_r, ocase_no, ocase_so, bnd, reduceIte, Int.reduceEq, Int.reduceLT, Int.reduceLE, not_true_eq_false, not_false_eq_true]
        repeat' (first | (simp only [f_X12_man, m_in, Option.bind_some, p_b01, p_b11, fa_lt, fa_le, fa_eq, Int32.reduceToInt, scase_l, scase_r, ocase_no, ocase_so, bnd, reduceIte, Int.reduceEq, Int.reduceLT, Int.reduceLE, not_true_eq_false, not_false_eq_true]) | (split <;> first | (exfalso; omega) | skip))
        all_goals (first | rfl | omega | contradiction | skip)

    · have e1 : (I 89 0 + 1 - 1).toInt = (I 89 0).toInt := by
        have q : (1 : Int32).toInt = 1 := rfl
        have q2 := p_add (a := I 89 0) (b := 1) (by omega) (by omega)
        rw [p_sub (by omega) (by omega), q2]; omega
      have e2 : (I 89 0 + 1).toInt = (I 89 0).toInt + 1 := p_add (b := 1) (by show _ ≤ _ + (1 : Int); omega) (by show _ + (1 : Int) < _; omega)
      refine ⟨u2 (u2 (u2 I 43 (tn (I 89 0)) a) 44 (tn (I 89 0)) b) 42 0 (I 89 0 + 1), I 89 0 + 1 - 1, u2 (u2 (u2 (u2 (u2 (u2 I 43 (tn (I 89 0)) a) 44 (tn (I 89 0)) b) 42 0 (I 89 0 + 1)) 90 (tn (I 89 0)) a) 91 (tn (I 89 0)) b) 89 0 (I 89 0 + 1), ?_, ?_, ?_, Or.inr (Or.inr (by omega))⟩
      · have x := p_ix (a := I 89 0) (n := 8) (by omega) (by omega)
        simp only [f_X11_man, c_isStore, c_isRows, m1, Option.bind_some, p_b01]
        rw [if_neg (by omega), if_neg (by omega), if_neg (by rw [fa_lt]; show ¬ _ < (0 : Int); omega), if_pos (by rw [fa_lt]; show _ < (8 : Int); omega), if_pos x, if_pos x]
      · have x := p_ix (a := I 89 0) (n := 8) (by omega) (by omega)
        have z : (u2 (u2 (u2 I 43 (tn (I 89 0)) a) 44 (tn (I 89 0)) b) 42 0 (I 89 0 + 1)) 89 0 = I 89 0 := (u2_fr (by omega)).trans ((u2_fr (by omega)).trans (u2_fr (by omega)))
        simp only [f_X12_man, m_in, z, Option.bind_some, p_b01]
        rw [if_neg (by show ¬ ¬ ((1 : Int) ≤ _ ∧ _ ≤ (99 : Int)); omega), if_neg (by show ¬ ¬ ((0 : Int) ≤ _ ∧ _ ≤ (9 : Int)); omega), if_neg (by rw [fa_eq]; exact h8), if_pos x, if_pos x]
      · have tt := p_tnc (I 89 0) (by omega)
        refine ⟨sh, ?_, fr_vTold (fun a k hh => (u2_fr (by omega)).trans ((u2_fr (by omega)).trans ((u2_fr (by omega)).trans ((u2_fr (by omega)).trans ((u2_fr (by omega)).trans (u2_fr (by omega))))))) ht, fr_vDays (fun a k hh => (u2_fr (by omega)).trans ((u2_fr (by omega)).trans ((u2_fr (by omega)).trans ((u2_fr (by omega)).trans ((u2_fr (by omega)).trans (u2_fr (by omega))))))) hd, fr_vTape (fun a k hh => (u2_fr (by omega)).trans ((u2_fr (by omega)).trans ((u2_fr (by omega)).trans ((u2_fr (by omega)).trans ((u2_fr (by omega)).trans (u2_fr (by omega))))))) hp, fr_vSheet (fun a k hh => (u2_fr (by omega)).trans ((u2_fr (by omega)).trans ((u2_fr (by omega)).trans ((u2_fr (by omega)).trans ((u2_fr (by omega)).trans (u2_fr (by omega))))))) hs, fr_vRules (fun a k hh => (u2_fr (by omega)).trans ((u2_fr (by omega)).trans ((u2_fr (by omega)).trans ((u2_fr (by omega)).trans ((u2_fr (by omega)).trans (u2_fr (by omega))))))) hr, fr_vLaws (fun a k hh => (u2_fr (by omega)).trans ((u2_fr (by omega)).trans ((u2_fr (by omega)).trans ((u2_fr (by omega)).trans ((u2_fr (by omega)).trans (u2_fr (by omega))))))) hl, fr_vForce (fun a k hh => (u2_fr (by omega)).trans ((u2_fr (by omega)).trans ((u2_fr (by omega)).trans ((u2_fr (by omega)).trans ((u2_fr (by omega)).trans (u2_fr (by omega))))))) hf, fr_vImg (fun a k hh => (u2_fr (by omega)).trans ((u2_fr (by omega)).trans ((u2_fr (by omega)).trans ((u2_fr (by omega)).trans ((u2_fr (by omega)).trans (u2_fr (by omega))))))) hi, hw⟩
        refine ⟨?_, ?_, ?_, ?_, ?_⟩
        · simp [u2_ap]
        · simp [u2_ap, bw, e2, -Int32.toInt_add]; omega
        · intro k hk
          have := m3 k hk
          simp [u2_ap, this]
        · intro k hk
          have hk : (k : Int) < (I 89 0).toInt + 1 := by rw [← e2]; simpa [u2_ap] using hk
          by_cases hq : k = tn (I 89 0)
          · subst hq
            simp [u2_ap, bw]; omega
          · have := m4 k (by omega)
            simp [u2_ap, hq, this]
        · intro z
          have := m5 (by simpa [u2_ap] using z)
          simp [u2_ap, e2, -Int32.toInt_add]; omega
  · refine ⟨I, -2, I, ?_, ?_, h, Or.inl rfl⟩
    · simp only [f_X11_man, c_isStore, c_isRows, m1, Option.bind_some, p_b01, p_b11, fa_lt, fa_le, fa_eq, Int32.reduceToInt, scase_l, scase_r, ocase_no, ocase_so, bnd, reduceIte, Int.reduceEq, Int.reduceLT, Int.reduceLE, not_true_eq_false, not_false_eq_true]
      repeat' (first | (simp only [f_X11_man, c_isStore, c_isRows, m1, Option.bind_some, p_b01, p_b11, fa_lt, fa_le, fa_eq, Int32.reduceToInt, scase_l, scase_r, ocase_no, ocase_so, bnd, reduceIte, Int.reduceEq, Int.reduceLT, Int.reduceLE, not_true_eq_false, not_false_eq_true]) | (split <;> first | (exfalso; omega) | skip))
      all_goals (first | rfl | omega | contradiction | skip)

    · simp only [f_X12_man, m_in, Option.bind_some, p_b01, p_b11, fa_lt, fa_le, fa_eq, Int32.reduceToInt, scase_l, scase_r, ocase_no, ocase_so, bnd, reduceIte, Int.reduceEq, Int.reduceLT, Int.reduceLE, not_true_eq_false, not_false_eq_true]
      repeat' (first | (simp only [f_X12_man, m_in, Option.bind_some, p_b01, p_b11, fa_lt, fa_le, fa_eq, Int32.reduceToInt, scase_l, scase_r, ocase_no, ocase_so, bnd, reduceIte, Int.reduceEq, Int.reduceLT, Int.reduceLE, not_true_eq_false, not_false_eq_true]) | (split <;> first | (exfalso; omega) | skip))
      all_goals (first | rfl | omega | contradiction | skip)

theorem op_set {ρ : Rh} {I : Nat → Nat → Int32} {J : Nat → Nat → Int64} (N : Nat) (h : Inv ρ I J) (a w v : Int32) : ∃ I1 r I2, f_X11_set N ρ I J a w v = some (I1, r) ∧ f_X12_set N ρ I1 J a w v = some (I2, r) ∧ Inv ρ I2 J := by
  obtain ⟨sh, hm, ht, hd, hp, hs, hr, hl, hf, hi, hw⟩ := id h
  obtain ⟨m1, m2, m3, m4, m5⟩ := id hm
  unfold bw at m2
  by_cases hb : 0 ≤ a.toInt ∧ a.toInt < (I 89 0).toInt
  · have tt := p_tnc a hb.1
    have q3 := m3 (tn a) (by omega)
    by_cases h0 : w.toInt = 0 ∧ 1 ≤ v.toInt ∧ v.toInt ≤ 99
    · have x := c_exch (N := N) (I := I) (J := J) (v := v) sh.k43 (i := a) (by omega) (by show a.toInt < (_ : Int); omega)
      have z : ∀ k, (u2 I 43 (tn a) v) 89 k = I 89 k := fun k => u2_fr (by omega)
      have y : (u2 I 43 (tn a) v) 90 (tn a) = I 43 (tn a) := (u2_fr (by omega)).trans (q3.1).symm
      have im := m_isMan N ρ (u2 I 43 (tn a) v) J a (by rw [z]; omega)
      refine ⟨u2 I 43 (tn a) v, I 43 (tn a), u2 (u2 I 43 (tn a) v) 90 (tn a) v, ?_, ?_, ?_⟩
      · simp only [f_X11_set, c_isMan, c_isStore, c_isRows, m1, x, Option.bind_some, p_b01, p_b11, fa_lt, fa_le, fa_eq, Int32.reduceToInt, scase_l, scase_r, ocase_no, ocase_so, bnd, reduceIte, Int.reduceEq, Int.reduceLT, Int.reduceLE, not_true_eq_false, not_false_eq_true]
        repeat' (first | (simp only [f_X11_set, c_isMan, c_isStore, c_isRows, m1, x, Option.bind_some, p_b01, p_b11, fa_lt, fa_le, fa_eq, Int32.reduceToInt, scase_l, scase_r, ocase_no, ocase_so, bnd, reduceIte, Int.reduceEq, Int.reduceLT, Int.reduceLE, not_true_eq_false, not_false_eq_true]) | (split <;> first | (exfalso; omega) | skip))
        all_goals (first | rfl | omega | contradiction | skip)
      · simp only [f_X12_set, m_in, im, z, y, Option.bind_some, p_b01, p_b11, fa_lt, fa_le, fa_eq, Int32.reduceToInt, scase_l, scase_r, ocase_no, ocase_so, bnd, reduceIte, Int.reduceEq, Int.reduceLT, Int.reduceLE, not_true_eq_false, not_false_eq_true]
        repeat' (first | (simp only [f_X12_set, m_in, im, z, y, Option.bind_some, p_b01, p_b11, fa_lt, fa_le, fa_eq, Int32.reduceToInt, scase_l, scase_r, ocase_no, ocase_so, bnd, reduceIte, Int.reduceEq, Int.reduceLT, Int.reduceLE, not_true_eq_false, not_false_eq_true]) | (split <;> first | (exfalso; omega) | skip))
        all_goals (first | rfl | omega | contradiction | skip)
      · refine ⟨sh, ?_, fr_vTold (fun a k hh => (u2_fr (by omega)).trans (u2_fr (by omega))) ht, fr_vDays (fun a k hh => (u2_fr (by omega)).trans (u2_fr (by omega))) hd, fr_vTape (fun a k hh => (u2_fr (by omega)).trans (u2_fr (by omega))) hp, fr_vSheet (fun a k hh => (u2_fr (by omega)).trans (u2_fr (by omega))) hs, fr_vRules (fun a k hh => (u2_fr (by omega)).trans (u2_fr (by omega))) hr, fr_vLaws (fun a k hh => (u2_fr (by omega)).trans (u2_fr (by omega))) hl, fr_vForce (fun a k hh => (u2_fr (by omega)).trans (u2_fr (by omega))) hf, fr_vImg (fun a k hh => (u2_fr (by omega)).trans (u2_fr (by omega))) hi, hw⟩
        refine ⟨?_, ?_, ?_, ?_, ?_⟩
        · simp [u2_ap, m1]
        · simp [u2_ap, bw]; omega
        · intro k hk
          have := m3 k hk
          by_cases hq : k = tn a <;> simp [u2_ap, hq, this]
          simp [m3 _ (hq ▸ hk)]
        · intro k hk
          have q := m4 k (by simpa [u2_ap] using hk)
          unfold bw at q
          by_cases hq : k = tn a
          · subst hq
            simp [u2_ap, bw]; omega
          · simp [u2_ap, hq, bw]; omega
        · simpa [u2_ap] using m5
    · by_cases h1 : w.toInt = 1 ∧ 0 ≤ v.toInt ∧ v.toInt ≤ 9
      · have x := c_exch (N := N) (I := I) (J := J) (v := v) sh.k44 (i := a) (by omega) (by show a.toInt < (_ : Int); omega)
        have z : ∀ k, (u2 I 44 (tn a) v) 89 k = I 89 k := fun k => u2_fr (by omega)
        have y : (u2 I 44 (tn a) v) 91 (tn a) = I 44 (tn a) := (u2_fr (by omega)).trans (q3.2).symm
        have im := m_isMan N ρ (u2 I 44 (tn a) v) J a (by rw [z]; omega)
        refine ⟨u2 I 44 (tn a) v, I 44 (tn a), u2 (u2 I 44 (tn a) v) 91 (tn a) v, ?_, ?_, ?_⟩
        · simp only [f_X11_set, c_isMan, c_isStore, c_isRows, m1, x, Option.bind_some, p_b01, p_b11, fa_lt, fa_le, fa_eq, Int32.reduceToInt, scase_l, scase_r, ocase_no, ocase_so, bnd, reduceIte, Int.reduceEq, Int.reduceLT, Int.reduceLE, not_true_eq_false, not_false_eq_true]
          repeat' (first | (simp only [f_X11_set, c_isMan, c_isStore, c_isRows, m1, x, Option.bind_some, p_b01, p_b11, fa_lt, fa_le, fa_eq, Int32.reduceToInt, scase_l, scase_r, ocase_no, ocase_so, bnd, reduceIte, Int.reduceEq, Int.reduceLT, Int.reduceLE, not_true_eq_false, not_false_eq_true]) | (split <;> first | (exfalso; omega) | skip))
          all_goals (first | rfl | omega | contradiction | skip)
        · simp only [f_X12_set, m_in, im, z, y, Option.bind_some, p_b01, p_b11, fa_lt, fa_le, fa_eq, Int32.reduceToInt, scase_l, scase_r, ocase_no, ocase_so, bnd, reduceIte, Int.reduceEq, Int.reduceLT, Int.reduceLE, not_true_eq_false, not_false_eq_true]
          repeat' (first | (simp only [f_X12_set, m_in, im, z, y, Option.bind_some, p_b01, p_b11, fa_lt, fa_le, fa_eq, Int32.reduceToInt, scase_l, scase_r, ocase_no, ocase_so, bnd, reduceIte, Int.reduceEq, Int.reduceLT, Int.reduceLE, not_true_eq_false, not_false_eq_true]) | (split <;> first | (exfalso; omega) | skip))
          all_goals (first | rfl | omega | contradiction | skip)
        · refine ⟨sh, ?_, fr_vTold (fun a k hh => (u2_fr (by omega)).trans (u2_fr (by omega))) ht, fr_vDays (fun a k hh => (u2_fr (by omega)).trans (u2_fr (by omega))) hd, fr_vTape (fun a k hh => (u2_fr (by omega)).trans (u2_fr (by omega))) hp, fr_vSheet (fun a k hh => (u2_fr (by omega)).trans (u2_fr (by omega))) hs, fr_vRules (fun a k hh => (u2_fr (by omega)).trans (u2_fr (by omega))) hr, fr_vLaws (fun a k hh => (u2_fr (by omega)).trans (u2_fr (by omega))) hl, fr_vForce (fun a k hh => (u2_fr (by omega)).trans (u2_fr (by omega))) hf, fr_vImg (fun a k hh => (u2_fr (by omega)).trans (u2_fr (by omega))) hi, hw⟩
          refine ⟨?_, ?_, ?_, ?_, ?_⟩
          · simp [u2_ap, m1]
          · simp [u2_ap, bw]; omega
          · intro k hk
            have := m3 k hk
            by_cases hq : k = tn a <;> simp [u2_ap, hq, this]
            simp [m3 _ (hq ▸ hk)]
          · intro k hk
            have q := m4 k (by simpa [u2_ap] using hk)
            unfold bw at q
            by_cases hq : k = tn a
            · subst hq
              simp [u2_ap, bw]; omega
            · simp [u2_ap, hq, bw]; omega
          · simpa [u2_ap] using m5
      · have im := m_isMan N ρ I J a (by omega)
        refine ⟨I, -7, I, ?_, ?_, h⟩
        · simp only [f_X11_set, c_isMan, c_isStore, c_isRows, m1, Option.bind_some, p_b01, p_b11, fa_lt, fa_le, fa_eq, Int32.reduceToInt, scase_l, scase_r, ocase_no, ocase_so, bnd, reduceIte, Int.reduceEq, Int.reduceLT, Int.reduceLE, not_true_eq_false, not_false_eq_true]
          repeat' (first | (simp only [f_X11_set, c_isMan, c_isStore, c_isRows, m1, Option.bind_some, p_b01, p_b11, fa_lt, fa_le, fa_eq, Int32.reduceToInt, scase_l, scase_r, ocase_no, ocase_so, bnd, reduceIte, Int.reduceEq, Int.reduceLT, Int.reduceLE, not_true_eq_false, not_false_eq_true]) | (split <;> first | (exfalso; omega) | skip))
          all_goals (first | rfl | omega | contradiction | skip)
        · simp only [f_X12_set, m_in, im, Option.bind_some, p_b01, p_b11, fa_lt, fa_le, fa_eq, Int32.reduceToInt, scase_l, scase_r, ocase_no, ocase_so, bnd, reduceIte, Int.reduceEq, Int.reduceLT, Int.reduceLE, not_true_eq_false, not_false_eq_true]
          repeat' (first | (simp only [f_X12_set, m_in, im, Option.bind_some, p_b01, p_b11, fa_lt, fa_le, fa_eq, Int32.reduceToInt, scase_l, scase_r, ocase_no, ocase_so, bnd, reduceIte, Int.reduceEq, Int.reduceLT, Int.reduceLE, not_true_eq_false, not_false_eq_true]) | (split <;> first | (exfalso; omega) | skip))
          all_goals (first | rfl | omega | contradiction | skip)
  · have im := m_isMan N ρ I J a (by omega)
    refine ⟨I, -5, I, ?_, ?_, h⟩
    · simp only [f_X11_set, c_isMan, c_isStore, c_isRows, m1, Option.bind_some, p_b01, p_b11, fa_lt, fa_le, fa_eq, Int32.reduceToInt, scase_l, scase_r, ocase_no, ocase_so, bnd, reduceIte, Int.reduceEq, Int.reduceLT, Int.reduceLE, not_true_eq_false, not_false_eq_true]
      repeat' (first | (simp only [f_X11_set, c_isMan, c_isStore, c_isRows, m1, Option.bind_some, p_b01, p_b11, fa_lt, fa_le, fa_eq, Int32.reduceToInt, scase_l, scase_r, ocase_no, ocase_so, bnd, reduceIte, Int.reduceEq, Int.reduceLT, Int.reduceLE, not_true_eq_false, not_false_eq_true]) | (split <;> first | (exfalso; omega) | skip))
      all_goals (first | rfl | omega | contradiction | skip)
    · simp only [f_X12_set, m_in, im, Option.bind_some, p_b01, p_b11, fa_lt, fa_le, fa_eq, Int32.reduceToInt, scase_l, scase_r, ocase_no, ocase_so, bnd, reduceIte, Int.reduceEq, Int.reduceLT, Int.reduceLE, not_true_eq_false, not_false_eq_true]
      repeat' (first | (simp only [f_X12_set, m_in, im, Option.bind_some, p_b01, p_b11, fa_lt, fa_le, fa_eq, Int32.reduceToInt, scase_l, scase_r, ocase_no, ocase_so, bnd, reduceIte, Int.reduceEq, Int.reduceLT, Int.reduceLE, not_true_eq_false, not_false_eq_true]) | (split <;> first | (exfalso; omega) | skip))
      all_goals (first | rfl | omega | contradiction | skip)
theorem op_boat {ρ : Rh} {I : Nat → Nat → Int32} {J : Nat → Nat → Int64} (N : Nat) (h : Inv ρ I J) (w v : Int32) : ∃ I1 r I2, f_X11_boat N ρ I J w v = some (I1, r) ∧ f_X12_boat N ρ I1 J w v = some (I2, r) ∧ Inv ρ I2 J := by
  obtain ⟨sh, hm, ht, hd, hp, hs, hr, hl, hf, hi, hw⟩ := id h
  obtain ⟨t1, t2, t3, t4, t5, t6, t7, t8⟩ := id ht
  unfold bw at t5 t6 t7 t8
  by_cases hb : 0 ≤ w.toInt ∧ w.toInt ≤ 3
  · have hc : w.toInt = 0 ∨ w.toInt = 1 ∨ w.toInt = 2 ∨ w.toInt = 3 := by omega
    rcases hc with hc | hc | hc | hc
    · have e : w = 0 := p_eq (by show _ = (0 : Int); omega)
      subst e
      by_cases h1 : 1 ≤ v.toInt ∧ v.toInt ≤ 12
      · have x := c_exch (N := N) (I := I) (J := J) (v := v) sh.k45 (i := 0) (by decide) (by decide)
        have z : ∀ k, (u2 I 45 0 v) 89 k = I 89 k := fun k => u2_fr (by omega)
        refine ⟨u2 I 45 0 v, I 45 0, u2 (u2 (u2 (u2 (u2 I 45 0 v) 89 3 (v)) 89 4 (I 89 4)) 89 5 (I 89 5)) 89 6 (I 89 6), ?_, ?_, ?_⟩
        · simp only [show tn 0 = 0 from rfl, show tn 1 = 1 from rfl, show tn 2 = 2 from rfl, show tn 3 = 3 from rfl, f_X11_boat, xl0, xl1, List.getD_cons_zero, List.getD_cons_succ, Int32.reduceToNatClampNeg, Nat.reduceLeDiff, or_false, or_self, x, Option.bind_some, p_b01, p_b11, fa_lt, fa_le, fa_eq, Int32.reduceToInt, scase_l, scase_r, ocase_no, ocase_so, bnd, reduceIte, Int.reduceEq, Int.reduceLT, Int.reduceLE, not_true_eq_false, not_false_eq_true]
          repeat' (first | (simp only [show tn 0 = 0 from rfl, show tn 1 = 1 from rfl, show tn 2 = 2 from rfl, show tn 3 = 3 from rfl, f_X11_boat, xl0, xl1, List.getD_cons_zero, List.getD_cons_succ, Int32.reduceToNatClampNeg, Nat.reduceLeDiff, or_false, or_self, x, Option.bind_some, p_b01, p_b11, fa_lt, fa_le, fa_eq, Int32.reduceToInt, scase_l, scase_r, ocase_no, ocase_so, bnd, reduceIte, Int.reduceEq, Int.reduceLT, Int.reduceLE, not_true_eq_false, not_false_eq_true]) | (split <;> first | (exfalso; omega) | skip))
          all_goals (first | rfl | omega | contradiction | skip)
        · simp only [f_X12_boat, f_X12_boatTold, m_in, z, t1, Option.bind_some, p_b01, p_b11, fa_lt, fa_le, fa_eq, Int32.reduceToInt, scase_l, scase_r, ocase_no, ocase_so, bnd, reduceIte, Int.reduceEq, Int.reduceLT, Int.reduceLE, not_true_eq_false, not_false_eq_true]
          repeat' (first | (simp only [f_X12_boat, f_X12_boatTold, m_in, z, t1, Option.bind_some, p_b01, p_b11, fa_lt, fa_le, fa_eq, Int32.reduceToInt, scase_l, scase_r, ocase_no, ocase_so, bnd, reduceIte, Int.reduceEq, Int.reduceLT, Int.reduceLE, not_true_eq_false, not_false_eq_true]) | (split <;> first | (exfalso; omega) | skip))
          all_goals (first | rfl | omega | contradiction | skip)
        · refine ⟨sh, fr_vMen (fun a k hh => (u2_fr (by omega)).trans ((u2_fr (by omega)).trans ((u2_fr (by omega)).trans ((u2_fr (by omega)).trans (u2_fr (by omega)))))) hm, ?_, fr_vDays (fun a k hh => (u2_fr (by omega)).trans ((u2_fr (by omega)).trans ((u2_fr (by omega)).trans ((u2_fr (by omega)).trans (u2_fr (by omega)))))) hd, fr_vTape (fun a k hh => (u2_fr (by omega)).trans ((u2_fr (by omega)).trans ((u2_fr (by omega)).trans ((u2_fr (by omega)).trans (u2_fr (by omega)))))) hp, fr_vSheet (fun a k hh => (u2_fr (by omega)).trans ((u2_fr (by omega)).trans ((u2_fr (by omega)).trans ((u2_fr (by omega)).trans (u2_fr (by omega)))))) hs, fr_vRules (fun a k hh => (u2_fr (by omega)).trans ((u2_fr (by omega)).trans ((u2_fr (by omega)).trans ((u2_fr (by omega)).trans (u2_fr (by omega)))))) hr, fr_vLaws (fun a k hh => (u2_fr (by omega)).trans ((u2_fr (by omega)).trans ((u2_fr (by omega)).trans ((u2_fr (by omega)).trans (u2_fr (by omega)))))) hl, fr_vForce (fun a k hh => (u2_fr (by omega)).trans ((u2_fr (by omega)).trans ((u2_fr (by omega)).trans ((u2_fr (by omega)).trans (u2_fr (by omega)))))) hf, fr_vImg (fun a k hh => (u2_fr (by omega)).trans ((u2_fr (by omega)).trans ((u2_fr (by omega)).trans ((u2_fr (by omega)).trans (u2_fr (by omega)))))) hi, hw⟩
          simp [vTold, u2_ap, bw, t1, t2, t3, t4]; omega
      · refine ⟨I, -2, I, ?_, ?_, h⟩
        · simp only [show tn 0 = 0 from rfl, show tn 1 = 1 from rfl, show tn 2 = 2 from rfl, show tn 3 = 3 from rfl, f_X11_boat, xl0, xl1, List.getD_cons_zero, List.getD_cons_succ, Int32.reduceToNatClampNeg, Nat.reduceLeDiff, or_false, or_self, Option.bind_some, p_b01, p_b11, fa_lt, fa_le, fa_eq, Int32.reduceToInt, scase_l, scase_r, ocase_no, ocase_so, bnd, reduceIte, Int.reduceEq, Int.reduceLT, Int.reduceLE, not_true_eq_false, not_false_eq_true]
          repeat' (first | (simp only [show tn 0 = 0 from rfl, show tn 1 = 1 from rfl, show tn 2 = 2 from rfl, show tn 3 = 3 from rfl, f_X11_boat, xl0, xl1, List.getD_cons_zero, List.getD_cons_succ, Int32.reduceToNatClampNeg, Nat.reduceLeDiff, or_false, or_self, Option.bind_some, p_b01, p_b11, fa_lt, fa_le, fa_eq, Int32.reduceToInt, scase_l, scase_r, ocase_no, ocase_so, bnd, reduceIte, Int.reduceEq, Int.reduceLT, Int.reduceLE, not_true_eq_false, not_false_eq_true]) | (split <;> first | (exfalso; omega) | skip))
          all_goals (first | rfl | omega | contradiction | skip)
        · simp only [f_X12_boat, f_X12_boatTold, m_in, Option.bind_some, p_b01, p_b11, fa_lt, fa_le, fa_eq, Int32.reduceToInt, scase_l, scase_r, ocase_no, ocase_so, bnd, reduceIte, Int.reduceEq, Int.reduceLT, Int.reduceLE, not_true_eq_false, not_false_eq_true]
          repeat' (first | (simp only [f_X12_boat, f_X12_boatTold, m_in, Option.bind_some, p_b01, p_b11, fa_lt, fa_le, fa_eq, Int32.reduceToInt, scase_l, scase_r, ocase_no, ocase_so, bnd, reduceIte, Int.reduceEq, Int.reduceLT, Int.reduceLE, not_true_eq_false, not_false_eq_true]) | (split <;> first | (exfalso; omega) | skip))
          all_goals (first | rfl | omega | contradiction | skip)
    · have e : w = 1 := p_eq (by show _ = (1 : Int); omega)
      subst e
      by_cases h1 : 0 ≤ v.toInt ∧ v.toInt ≤ 999
      · have x := c_exch (N := N) (I := I) (J := J) (v := v) sh.k45 (i := 1) (by decide) (by decide)
        have z : ∀ k, (u2 I 45 1 v) 89 k = I 89 k := fun k => u2_fr (by omega)
        refine ⟨u2 I 45 1 v, I 45 1, u2 (u2 (u2 (u2 (u2 I 45 1 v) 89 3 (I 89 3)) 89 4 (v)) 89 5 (I 89 5)) 89 6 (I 89 6), ?_, ?_, ?_⟩
        · simp only [show tn 0 = 0 from rfl, show tn 1 = 1 from rfl, show tn 2 = 2 from rfl, show tn 3 = 3 from rfl, f_X11_boat, xl0, xl1, List.getD_cons_zero, List.getD_cons_succ, Int32.reduceToNatClampNeg, Nat.reduceLeDiff, or_false, or_self, x, Option.bind_some, p_b01, p_b11, fa_lt, fa_le, fa_eq, Int32.reduceToInt, scase_l, scase_r, ocase_no, ocase_so, bnd, reduceIte, Int.reduceEq, Int.reduceLT, Int.reduceLE, not_true_eq_false, not_false_eq_true]
          repeat' (first | (simp only [show tn 0 = 0 from rfl, show tn 1 = 1 from rfl, show tn 2 = 2 from rfl, show tn 3 = 3 from rfl, f_X11_boat, xl0, xl1, List.getD_cons_zero, List.getD_cons_succ, Int32.reduceToNatClampNeg, Nat.reduceLeDiff, or_false, or_self, x, Option.bind_some, p_b01, p_b11, fa_lt, fa_le, fa_eq, Int32.reduceToInt, scase_l, scase_r, ocase_no, ocase_so, bnd, reduceIte, Int.reduceEq, Int.reduceLT, Int.reduceLE, not_true_eq_false, not_false_eq_true]) | (split <;> first | (exfalso; omega) | skip))
          all_goals (first | rfl | omega | contradiction | skip)
        · simp only [f_X12_boat, f_X12_boatTold, m_in, z, t2, Option.bind_some, p_b01, p_b11, fa_lt, fa_le, fa_eq, Int32.reduceToInt, scase_l, scase_r, ocase_no, ocase_so, bnd, reduceIte, Int.reduceEq, Int.reduceLT, Int.reduceLE, not_true_eq_false, not_false_eq_true]
          repeat' (first | (simp only [f_X12_boat, f_X12_boatTold, m_in, z, t2, Option.bind_some, p_b01, p_b11, fa_lt, fa_le, fa_eq, Int32.reduceToInt, scase_l, scase_r, ocase_no, ocase_so, bnd, reduceIte, Int.reduceEq, Int.reduceLT, Int.reduceLE, not_true_eq_false, not_false_eq_true]) | (split <;> first | (exfalso; omega) | skip))
          all_goals (first | rfl | omega | contradiction | skip)
        · refine ⟨sh, fr_vMen (fun a k hh => (u2_fr (by omega)).trans ((u2_fr (by omega)).trans ((u2_fr (by omega)).trans ((u2_fr (by omega)).trans (u2_fr (by omega)))))) hm, ?_, fr_vDays (fun a k hh => (u2_fr (by omega)).trans ((u2_fr (by omega)).trans ((u2_fr (by omega)).trans ((u2_fr (by omega)).trans (u2_fr (by omega)))))) hd, fr_vTape (fun a k hh => (u2_fr (by omega)).trans ((u2_fr (by omega)).trans ((u2_fr (by omega)).trans ((u2_fr (by omega)).trans (u2_fr (by omega)))))) hp, fr_vSheet (fun a k hh => (u2_fr (by omega)).trans ((u2_fr (by omega)).trans ((u2_fr (by omega)).trans ((u2_fr (by omega)).trans (u2_fr (by omega)))))) hs, fr_vRules (fun a k hh => (u2_fr (by omega)).trans ((u2_fr (by omega)).trans ((u2_fr (by omega)).trans ((u2_fr (by omega)).trans (u2_fr (by omega)))))) hr, fr_vLaws (fun a k hh => (u2_fr (by omega)).trans ((u2_fr (by omega)).trans ((u2_fr (by omega)).trans ((u2_fr (by omega)).trans (u2_fr (by omega)))))) hl, fr_vForce (fun a k hh => (u2_fr (by omega)).trans ((u2_fr (by omega)).trans ((u2_fr (by omega)).trans ((u2_fr (by omega)).trans (u2_fr (by omega)))))) hf, fr_vImg (fun a k hh => (u2_fr (by omega)).trans ((u2_fr (by omega)).trans ((u2_fr (by omega)).trans ((u2_fr (by omega)).trans (u2_fr (by omega)))))) hi, hw⟩
          simp [vTold, u2_ap, bw, t1, t2, t3, t4]; omega
      · refine ⟨I, -2, I, ?_, ?_, h⟩
        · simp only [show tn 0 = 0 from rfl, show tn 1 = 1 from rfl, show tn 2 = 2 from rfl, show tn 3 = 3 from rfl, f_X11_boat, xl0, xl1, List.getD_cons_zero, List.getD_cons_succ, Int32.reduceToNatClampNeg, Nat.reduceLeDiff, or_false, or_self, Option.bind_some, p_b01, p_b11, fa_lt, fa_le, fa_eq, Int32.reduceToInt, scase_l, scase_r, ocase_no, ocase_so, bnd, reduceIte, Int.reduceEq, Int.reduceLT, Int.reduceLE, not_true_eq_false, not_false_eq_true]
          repeat' (first | (simp only [show tn 0 = 0 from rfl, show tn 1 = 1 from rfl, show tn 2 = 2 from rfl, show tn 3 = 3 from rfl, f_X11_boat, xl0, xl1, List.getD_cons_zero, List.getD_cons_succ, Int32.reduceToNatClampNeg, Nat.reduceLeDiff, or_false, or_self, Option.bind_some, p_b01, p_b11, fa_lt, fa_le, fa_eq, Int32.reduceToInt, scase_l, scase_r, ocase_no, ocase_so, bnd, reduceIte, Int.reduceEq, Int.reduceLT, Int.reduceLE, not_true_eq_false, not_false_eq_true]) | (split <;> first | (exfalso; omega) | skip))
          all_goals (first | rfl | omega | contradiction | skip)
        · simp only [f_X12_boat, f_X12_boatTold, m_in, Option.bind_some, p_b01, p_b11, fa_lt, fa_le, fa_eq, Int32.reduceToInt, scase_l, scase_r, ocase_no, ocase_so, bnd, reduceIte, Int.reduceEq, Int.reduceLT, Int.reduceLE, not_true_eq_false, not_false_eq_true]
          repeat' (first | (simp only [f_X12_boat, f_X12_boatTold, m_in, Option.bind_some, p_b01, p_b11, fa_lt, fa_le, fa_eq, Int32.reduceToInt, scase_l, scase_r, ocase_no, ocase_so, bnd, reduceIte, Int.reduceEq, Int.reduceLT, Int.reduceLE, not_true_eq_false, not_false_eq_true]) | (split <;> first | (exfalso; omega) | skip))
          all_goals (first | rfl | omega | contradiction | skip)
    · have e : w = 2 := p_eq (by show _ = (2 : Int); omega)
      subst e
      by_cases h1 : 0 ≤ v.toInt ∧ v.toInt ≤ 99
      · have x := c_exch (N := N) (I := I) (J := J) (v := v) sh.k45 (i := 2) (by decide) (by decide)
        have z : ∀ k, (u2 I 45 2 v) 89 k = I 89 k := fun k => u2_fr (by omega)
        refine ⟨u2 I 45 2 v, I 45 2, u2 (u2 (u2 (u2 (u2 I 45 2 v) 89 3 (I 89 3)) 89 4 (I 89 4)) 89 5 (v)) 89 6 (I 89 6), ?_, ?_, ?_⟩
        · simp only [show tn 0 = 0 from rfl, show tn 1 = 1 from rfl, show tn 2 = 2 from rfl, show tn 3 = 3 from rfl, f_X11_boat, xl0, xl1, List.getD_cons_zero, List.getD_cons_succ, Int32.reduceToNatClampNeg, Nat.reduceLeDiff, or_false, or_self, x, Option.bind_some, p_b01, p_b11, fa_lt, fa_le, fa_eq, Int32.reduceToInt, scase_l, scase_r, ocase_no, ocase_so, bnd, reduceIte, Int.reduceEq, Int.reduceLT, Int.reduceLE, not_true_eq_false, not_false_eq_true]
          repeat' (first | (simp only [show tn 0 = 0 from rfl, show tn 1 = 1 from rfl, show tn 2 = 2 from rfl, show tn 3 = 3 from rfl, f_X11_boat, xl0, xl1, List.getD_cons_zero, List.getD_cons_succ, Int32.reduceToNatClampNeg, Nat.reduceLeDiff, or_false, or_self, x, Option.bind_some, p_b01, p_b11, fa_lt, fa_le, fa_eq, Int32.reduceToInt, scase_l, scase_r, ocase_no, ocase_so, bnd, reduceIte, Int.reduceEq, Int.reduceLT, Int.reduceLE, not_true_eq_false, not_false_eq_true]) | (split <;> first | (exfalso; omega) | skip))
          all_goals (first | rfl | omega | contradiction | skip)
        · simp only [f_X12_boat, f_X12_boatTold, m_in, z, t3, Option.bind_some, p_b01, p_b11, fa_lt, fa_le, fa_eq, Int32.reduceToInt, scase_l, scase_r, ocase_no, ocase_so, bnd, reduceIte, Int.reduceEq, Int.reduceLT, Int.reduceLE, not_true_eq_false, not_false_eq_true]
          repeat' (first | (simp only [f_X12_boat, f_X12_boatTold, m_in, z, t3, Option.bind_some, p_b01, p_b11, fa_lt, fa_le, fa_eq, Int32.reduceToInt, scase_l, scase_r, ocase_no, ocase_so, bnd, reduceIte, Int.reduceEq, Int.reduceLT, Int.reduceLE, not_true_eq_false, not_false_eq_true]) | (split <;> first | (exfalso; omega) | skip))
          all_goals (first | rfl | omega | contradiction | skip)
        · refine ⟨sh, fr_vMen (fun a k hh => (u2_fr (by omega)).trans ((u2_fr (by omega)).trans ((u2_fr (by omega)).trans ((u2_fr (by omega)).trans (u2_fr (by omega)))))) hm, ?_, fr_vDays (fun a k hh => (u2_fr (by omega)).trans ((u2_fr (by omega)).trans ((u2_fr (by omega)).trans ((u2_fr (by omega)).trans (u2_fr (by omega)))))) hd, fr_vTape (fun a k hh => (u2_fr (by omega)).trans ((u2_fr (by omega)).trans ((u2_fr (by omega)).trans ((u2_fr (by omega)).trans (u2_fr (by omega)))))) hp, fr_vSheet (fun a k hh => (u2_fr (by omega)).trans ((u2_fr (by omega)).trans ((u2_fr (by omega)).trans ((u2_fr (by omega)).trans (u2_fr (by omega)))))) hs, fr_vRules (fun a k hh => (u2_fr (by omega)).trans ((u2_fr (by omega)).trans ((u2_fr (by omega)).trans ((u2_fr (by omega)).trans (u2_fr (by omega)))))) hr, fr_vLaws (fun a k hh => (u2_fr (by omega)).trans ((u2_fr (by omega)).trans ((u2_fr (by omega)).trans ((u2_fr (by omega)).trans (u2_fr (by omega)))))) hl, fr_vForce (fun a k hh => (u2_fr (by omega)).trans ((u2_fr (by omega)).trans ((u2_fr (by omega)).trans ((u2_fr (by omega)).trans (u2_fr (by omega)))))) hf, fr_vImg (fun a k hh => (u2_fr (by omega)).trans ((u2_fr (by omega)).trans ((u2_fr (by omega)).trans ((u2_fr (by omega)).trans (u2_fr (by omega)))))) hi, hw⟩
          simp [vTold, u2_ap, bw, t1, t2, t3, t4]; omega
      · refine ⟨I, -2, I, ?_, ?_, h⟩
        · simp only [show tn 0 = 0 from rfl, show tn 1 = 1 from rfl, show tn 2 = 2 from rfl, show tn 3 = 3 from rfl, f_X11_boat, xl0, xl1, List.getD_cons_zero, List.getD_cons_succ, Int32.reduceToNatClampNeg, Nat.reduceLeDiff, or_false, or_self, Option.bind_some, p_b01, p_b11, fa_lt, fa_le, fa_eq, Int32.reduceToInt, scase_l, scase_r, ocase_no, ocase_so, bnd, reduceIte, Int.reduceEq, Int.reduceLT, Int.reduceLE, not_true_eq_false, not_false_eq_true]
          repeat' (first | (simp only [show tn 0 = 0 from rfl, show tn 1 = 1 from rfl, show tn 2 = 2 from rfl, show tn 3 = 3 from rfl, f_X11_boat, xl0, xl1, List.getD_cons_zero, List.getD_cons_succ, Int32.reduceToNatClampNeg, Nat.reduceLeDiff, or_false, or_self, Option.bind_some, p_b01, p_b11, fa_lt, fa_le, fa_eq, Int32.reduceToInt, scase_l, scase_r, ocase_no, ocase_so, bnd, reduceIte, Int.reduceEq, Int.reduceLT, Int.reduceLE, not_true_eq_false, not_false_eq_true]) | (split <;> first | (exfalso; omega) | skip))
          all_goals (first | rfl | omega | contradiction | skip)
        · simp only [f_X12_boat, f_X12_boatTold, m_in, Option.bind_some, p_b01, p_b11, fa_lt, fa_le, fa_eq, Int32.reduceToInt, scase_l, scase_r, ocase_no, ocase_so, bnd, reduceIte, Int.reduceEq, Int.reduceLT, Int.reduceLE, not_true_eq_false, not_false_eq_true]
          repeat' (first | (simp only [f_X12_boat, f_X12_boatTold, m_in, Option.bind_some, p_b01, p_b11, fa_lt, fa_le, fa_eq, Int32.reduceToInt, scase_l, scase_r, ocase_no, ocase_so, bnd, reduceIte, Int.reduceEq, Int.reduceLT, Int.reduceLE, not_true_eq_false, not_false_eq_true]) | (split <;> first | (exfalso; omega) | skip))
          all_goals (first | rfl | omega | contradiction | skip)
    · have e : w = 3 := p_eq (by show _ = (3 : Int); omega)
      subst e
      by_cases h1 : 0 ≤ v.toInt ∧ v.toInt ≤ 9999
      · have x := c_exch (N := N) (I := I) (J := J) (v := v) sh.k45 (i := 3) (by decide) (by decide)
        have z : ∀ k, (u2 I 45 3 v) 89 k = I 89 k := fun k => u2_fr (by omega)
        refine ⟨u2 I 45 3 v, I 45 3, u2 (u2 (u2 (u2 (u2 I 45 3 v) 89 3 (I 89 3)) 89 4 (I 89 4)) 89 5 (I 89 5)) 89 6 (v), ?_, ?_, ?_⟩
        · simp only [show tn 0 = 0 from rfl, show tn 1 = 1 from rfl, show tn 2 = 2 from rfl, show tn 3 = 3 from rfl, f_X11_boat, xl0, xl1, List.getD_cons_zero, List.getD_cons_succ, Int32.reduceToNatClampNeg, Nat.reduceLeDiff, or_false, or_self, x, Option.bind_some, p_b01, p_b11, fa_lt, fa_le, fa_eq, Int32.reduceToInt, scase_l, scase_r, ocase_no, ocase_so, bnd, reduceIte, Int.reduceEq, Int.reduceLT, Int.reduceLE, not_true_eq_false, not_false_eq_true]
          repeat' (first | (simp only [show tn 0 = 0 from rfl, show tn 1 = 1 from rfl, show tn 2 = 2 from rfl, show tn 3 = 3 from rfl, f_X11_boat, xl0, xl1, List.getD_cons_zero, List.getD_cons_succ, Int32.reduceToNatClampNeg, Nat.reduceLeDiff, or_false, or_self, x, Option.bind_some, p_b01, p_b11, fa_lt, fa_le, fa_eq, Int32.reduceToInt, scase_l, scase_r, ocase_no, ocase_so, bnd, reduceIte, Int.reduceEq, Int.reduceLT, Int.reduceLE, not_true_eq_false, not_false_eq_true]) | (split <;> first | (exfalso; omega) | skip))
          all_goals (first | rfl | omega | contradiction | skip)
        · simp only [f_X12_boat, f_X12_boatTold, m_in, z, t4, Option.bind_some, p_b01, p_b11, fa_lt, fa_le, fa_eq, Int32.reduceToInt, scase_l, scase_r, ocase_no, ocase_so, bnd, reduceIte, Int.reduceEq, Int.reduceLT, Int.reduceLE, not_true_eq_false, not_false_eq_true]
          repeat' (first | (simp only [f_X12_boat, f_X12_boatTold, m_in, z, t4, Option.bind_some, p_b01, p_b11, fa_lt, fa_le, fa_eq, Int32.reduceToInt, scase_l, scase_r, ocase_no, ocase_so, bnd, reduceIte, Int.reduceEq, Int.reduceLT, Int.reduceLE, not_true_eq_false, not_false_eq_true]) | (split <;> first | (exfalso; omega) | skip))
          all_goals (first | rfl | omega | contradiction | skip)
        · refine ⟨sh, fr_vMen (fun a k hh => (u2_fr (by omega)).trans ((u2_fr (by omega)).trans ((u2_fr (by omega)).trans ((u2_fr (by omega)).trans (u2_fr (by omega)))))) hm, ?_, fr_vDays (fun a k hh => (u2_fr (by omega)).trans ((u2_fr (by omega)).trans ((u2_fr (by omega)).trans ((u2_fr (by omega)).trans (u2_fr (by omega)))))) hd, fr_vTape (fun a k hh => (u2_fr (by omega)).trans ((u2_fr (by omega)).trans ((u2_fr (by omega)).trans ((u2_fr (by omega)).trans (u2_fr (by omega)))))) hp, fr_vSheet (fun a k hh => (u2_fr (by omega)).trans ((u2_fr (by omega)).trans ((u2_fr (by omega)).trans ((u2_fr (by omega)).trans (u2_fr (by omega)))))) hs, fr_vRules (fun a k hh => (u2_fr (by omega)).trans ((u2_fr (by omega)).trans ((u2_fr (by omega)).trans ((u2_fr (by omega)).trans (u2_fr (by omega)))))) hr, fr_vLaws (fun a k hh => (u2_fr (by omega)).trans ((u2_fr (by omega)).trans ((u2_fr (by omega)).trans ((u2_fr (by omega)).trans (u2_fr (by omega)))))) hl, fr_vForce (fun a k hh => (u2_fr (by omega)).trans ((u2_fr (by omega)).trans ((u2_fr (by omega)).trans ((u2_fr (by omega)).trans (u2_fr (by omega)))))) hf, fr_vImg (fun a k hh => (u2_fr (by omega)).trans ((u2_fr (by omega)).trans ((u2_fr (by omega)).trans ((u2_fr (by omega)).trans (u2_fr (by omega)))))) hi, hw⟩
          simp [vTold, u2_ap, bw, t1, t2, t3, t4]; omega
      · refine ⟨I, -2, I, ?_, ?_, h⟩
        · simp only [show tn 0 = 0 from rfl, show tn 1 = 1 from rfl, show tn 2 = 2 from rfl, show tn 3 = 3 from rfl, f_X11_boat, xl0, xl1, List.getD_cons_zero, List.getD_cons_succ, Int32.reduceToNatClampNeg, Nat.reduceLeDiff, or_false, or_self, Option.bind_some, p_b01, p_b11, fa_lt, fa_le, fa_eq, Int32.reduceToInt, scase_l, scase_r, ocase_no, ocase_so, bnd, reduceIte, Int.reduceEq, Int.reduceLT, Int.reduceLE, not_true_eq_false, not_false_eq_true]
          repeat' (first | (simp only [show tn 0 = 0 from rfl, show tn 1 = 1 from rfl, show tn 2 = 2 from rfl, show tn 3 = 3 from rfl, f_X11_boat, xl0, xl1, List.getD_cons_zero, List.getD_cons_succ, Int32.reduceToNatClampNeg, Nat.reduceLeDiff, or_false, or_self, Option.bind_some, p_b01, p_b11, fa_lt, fa_le, fa_eq, Int32.reduceToInt, scase_l, scase_r, ocase_no, ocase_so, bnd, reduceIte, Int.reduceEq, Int.reduceLT, Int.reduceLE, not_true_eq_false, not_false_eq_true]) | (split <;> first | (exfalso; omega) | skip))
          all_goals (first | rfl | omega | contradiction | skip)
        · simp only [f_X12_boat, f_X12_boatTold, m_in, Option.bind_some, p_b01, p_b11, fa_lt, fa_le, fa_eq, Int32.reduceToInt, scase_l, scase_r, ocase_no, ocase_so, bnd, reduceIte, Int.reduceEq, Int.reduceLT, Int.reduceLE, not_true_eq_false, not_false_eq_true]
          repeat' (first | (simp only [f_X12_boat, f_X12_boatTold, m_in, Option.bind_some, p_b01, p_b11, fa_lt, fa_le, fa_eq, Int32.reduceToInt, scase_l, scase_r, ocase_no, ocase_so, bnd, reduceIte, Int.reduceEq, Int.reduceLT, Int.reduceLE, not_true_eq_false, not_false_eq_true]) | (split <;> first | (exfalso; omega) | skip))
          all_goals (first | rfl | omega | contradiction | skip)
  · refine ⟨I, -2, I, ?_, ?_, h⟩
    · simp only [show tn 0 = 0 from rfl, show tn 1 = 1 from rfl, show tn 2 = 2 from rfl, show tn 3 = 3 from rfl, f_X11_boat, xl0, xl1, List.getD_cons_zero, List.getD_cons_succ, Int32.reduceToNatClampNeg, Nat.reduceLeDiff, or_false, or_self, Option.bind_some, p_b01, p_b11, fa_lt, fa_le, fa_eq, Int32.reduceToInt, scase_l, scase_r, ocase_no, ocase_so, bnd, reduceIte, Int.reduceEq, Int.reduceLT, Int.reduceLE, not_true_eq_false, not_false_eq_true]
      repeat' (first | (simp only [show tn 0 = 0 from rfl, show tn 1 = 1 from rfl, show tn 2 = 2 from rfl, show tn 3 = 3 from rfl, f_X11_boat, xl0, xl1, List.getD_cons_zero, List.getD_cons_succ, Int32.reduceToNatClampNeg, Nat.reduceLeDiff, or_false, or_self, Option.bind_some, p_b01, p_b11, fa_lt, fa_le, fa_eq, Int32.reduceToInt, scase_l, scase_r, ocase_no, ocase_so, bnd, reduceIte, Int.reduceEq, Int.reduceLT, Int.reduceLE, not_true_eq_false, not_false_eq_true]) | (split <;> first | (exfalso; omega) | skip))
      all_goals (first | rfl | omega | contradiction | skip)
    · simp only [f_X12_boat, f_X12_boatTold, m_in, Option.bind_some, p_b01, p_b11, fa_lt, fa_le, fa_eq, Int32.reduceToInt, scase_l, scase_r, ocase_no, ocase_so, bnd, reduceIte, Int.reduceEq, Int.reduceLT, Int.reduceLE, not_true_eq_false, not_false_eq_true]
      repeat' (first | (simp only [f_X12_boat, f_X12_boatTold, m_in, Option.bind_some, p_b01, p_b11, fa_lt, fa_le, fa_eq, Int32.reduceToInt, scase_l, scase_r, ocase_no, ocase_so, bnd, reduceIte, Int.reduceEq, Int.reduceLT, Int.reduceLE, not_true_eq_false, not_false_eq_true]) | (split <;> first | (exfalso; omega) | skip))
      all_goals (first | rfl | omega | contradiction | skip)
