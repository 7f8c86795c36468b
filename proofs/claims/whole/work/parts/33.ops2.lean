/-! ===== the pure layer: more plain calls ===== -/
theorem op_day {ρ : Rh} {I : Nat → Nat → Int32} {J : Nat → Nat → Int64} (N : Nat) (h : Inv ρ I J) (a w v : Int32) : ∃ I1 r I2, f_X11_day N ρ I J a w v = some (I1, r) ∧ f_X12_day N ρ I1 J a w v = some (I2, r) ∧ Inv ρ I2 J := by
  obtain ⟨sh, hm, ht, hd, hp, hs, hr, hl, hf, hi, hw⟩ := id h
  by_cases hb : 0 ≤ a.toInt ∧ a.toInt < 12
  · have tt := p_tnc a hb.1
    have q3 := hd (tn a) (by omega)
    by_cases h0 : w.toInt = 0 ∧ 0 ≤ v.toInt ∧ v.toInt ≤ 9
    · have x := c_exch (N := N) (I := I) (J := J) (v := v) sh.k46 (i := a) (by omega) (by show a.toInt < (_ : Int); omega)
      have z : ∀ k, (u2 I 46 (tn a) v) 89 k = I 89 k := fun k => u2_fr (by omega)
      have y : (u2 I 46 (tn a) v) 92 (tn a) = I 46 (tn a) := (u2_fr (by omega)).trans (q3.1).symm
      refine ⟨u2 I 46 (tn a) v, I 46 (tn a), u2 (u2 I 46 (tn a) v) 92 (tn a) v, ?_, ?_, ?_⟩
      · simp only [f_X11_day, x, Option.bind_some, p_b01, p_b11, fa_lt, fa_le, fa_eq, Int32.reduceToInt, scase_l, scase_r, ocase_no, ocase_so, bnd, reduceIte, Int.reduceEq, Int.reduceLT, Int.reduceLE, not_true_eq_false, not_false_eq_true]
        repeat' (first | (simp only [f_X11_day, x, Option.bind_some, p_b01, p_b11, fa_lt, fa_le, fa_eq, Int32.reduceToInt, scase_l, scase_r, ocase_no, ocase_so, bnd, reduceIte, Int.reduceEq, Int.reduceLT, Int.reduceLE, not_true_eq_false, not_false_eq_true]) | (split <;> first | (exfalso; omega) | skip))
        all_goals (first | rfl | omega | contradiction | skip)
      · simp only [f_X12_day, m_in, z, y, Option.bind_some, p_b01, p_b11, fa_lt, fa_le, fa_eq, Int32.reduceToInt, scase_l, scase_r, ocase_no, ocase_so, bnd, reduceIte, Int.reduceEq, Int.reduceLT, Int.reduceLE, not_true_eq_false, not_false_eq_true]
        repeat' (first | (simp only [f_X12_day, m_in, z, y, Option.bind_some, p_b01, p_b11, fa_lt, fa_le, fa_eq, Int32.reduceToInt, scase_l, scase_r, ocase_no, ocase_so, bnd, reduceIte, Int.reduceEq, Int.reduceLT, Int.reduceLE, not_true_eq_false, not_false_eq_true]) | (split <;> first | (exfalso; omega) | skip))
        all_goals (first | rfl | omega | contradiction | skip)
      · refine ⟨sh, fr_vMen (fun a k hh => (u2_fr (by omega)).trans (u2_fr (by omega))) hm, fr_vTold (fun a k hh => (u2_fr (by omega)).trans (u2_fr (by omega))) ht, ?_, fr_vTape (fun a k hh => (u2_fr (by omega)).trans (u2_fr (by omega))) hp, fr_vSheet (fun a k hh => (u2_fr (by omega)).trans (u2_fr (by omega))) hs, fr_vRules (fun a k hh => (u2_fr (by omega)).trans (u2_fr (by omega))) hr, fr_vLaws (fun a k hh => (u2_fr (by omega)).trans (u2_fr (by omega))) hl, fr_vForce (fun a k hh => (u2_fr (by omega)).trans (u2_fr (by omega))) hf, fr_vImg (fun a k hh => (u2_fr (by omega)).trans (u2_fr (by omega))) hi, hw⟩
        intro k hk
        have q := hd k hk
        obtain ⟨q1, q2, q3, q4⟩ := q
        unfold bw at q3 q4
        by_cases hq : k = tn a
        · subst hq
          simp [u2_ap, bw, q1, q2]; omega
        · simp [u2_ap, hq, bw, q1, q2]; omega
    · by_cases h1 : w.toInt = 1 ∧ 0 ≤ v.toInt ∧ v.toInt ≤ 50
      · have x := c_exch (N := N) (I := I) (J := J) (v := v) sh.k47 (i := a) (by omega) (by show a.toInt < (_ : Int); omega)
        have z : ∀ k, (u2 I 47 (tn a) v) 89 k = I 89 k := fun k => u2_fr (by omega)
        have y : (u2 I 47 (tn a) v) 93 (tn a) = I 47 (tn a) := (u2_fr (by omega)).trans (q3.2.1).symm
        refine ⟨u2 I 47 (tn a) v, I 47 (tn a), u2 (u2 I 47 (tn a) v) 93 (tn a) v, ?_, ?_, ?_⟩
        · simp only [f_X11_day, x, Option.bind_some, p_b01, p_b11, fa_lt, fa_le, fa_eq, Int32.reduceToInt, scase_l, scase_r, ocase_no, ocase_so, bnd, reduceIte, Int.reduceEq, Int.reduceLT, Int.reduceLE, not_true_eq_false, not_false_eq_true]
          repeat' (first | (simp only [f_X11_day, x, Option.bind_some, p_b01, p_b11, fa_lt, fa_le, fa_eq, Int32.reduceToInt, scase_l, scase_r, ocase_no, ocase_so, bnd, reduceIte, Int.reduceEq, Int.reduceLT, Int.reduceLE, not_true_eq_false, not_false_eq_true]) | (split <;> first | (exfalso; omega) | skip))
          all_goals (first | rfl | omega | contradiction | skip)
        · simp only [f_X12_day, m_in, z, y, Option.bind_some, p_b01, p_b11, fa_lt, fa_le, fa_eq, Int32.reduceToInt, scase_l, scase_r, ocase_no, ocase_so, bnd, reduceIte, Int.reduceEq, Int.reduceLT, Int.reduceLE, not_true_eq_false, not_false_eq_true]
          repeat' (first | (simp only [f_X12_day, m_in, z, y, Option.bind_some, p_b01, p_b11, fa_lt, fa_le, fa_eq, Int32.reduceToInt, scase_l, scase_r, ocase_no, ocase_so, bnd, reduceIte, Int.reduceEq, Int.reduceLT, Int.reduceLE, not_true_eq_false, not_false_eq_true]) | (split <;> first | (exfalso; omega) | skip))
          all_goals (first | rfl | omega | contradiction | skip)
        · refine ⟨sh, fr_vMen (fun a k hh => (u2_fr (by omega)).trans (u2_fr (by omega))) hm, fr_vTold (fun a k hh => (u2_fr (by omega)).trans (u2_fr (by omega))) ht, ?_, fr_vTape (fun a k hh => (u2_fr (by omega)).trans (u2_fr (by omega))) hp, fr_vSheet (fun a k hh => (u2_fr (by omega)).trans (u2_fr (by omega))) hs, fr_vRules (fun a k hh => (u2_fr (by omega)).trans (u2_fr (by omega))) hr, fr_vLaws (fun a k hh => (u2_fr (by omega)).trans (u2_fr (by omega))) hl, fr_vForce (fun a k hh => (u2_fr (by omega)).trans (u2_fr (by omega))) hf, fr_vImg (fun a k hh => (u2_fr (by omega)).trans (u2_fr (by omega))) hi, hw⟩
          intro k hk
          have q := hd k hk
          obtain ⟨q1, q2, q3, q4⟩ := q
          unfold bw at q3 q4
          by_cases hq : k = tn a
          · subst hq
            simp [u2_ap, bw, q1, q2]; omega
          · simp [u2_ap, hq, bw, q1, q2]; omega
      · refine ⟨I, -7, I, ?_, ?_, h⟩
        · simp only [f_X11_day, Option.bind_some, p_b01, p_b11, fa_lt, fa_le, fa_eq, Int32.reduceToInt, scase_l, scase_r, ocase_no, ocase_so, bnd, reduceIte, Int.reduceEq, Int.reduceLT, Int.reduceLE, not_true_eq_false, not_false_eq_true]
          repeat' (first | (simp only [f_X11_day, Option.bind_some, p_b01, p_b11, fa_lt, fa_le, fa_eq, Int32.reduceToInt, scase_l, scase_r, ocase_no, ocase_so, bnd, reduceIte, Int.reduceEq, Int.reduceLT, Int.reduceLE, not_true_eq_false, not_false_eq_true]) | (split <;> first | (exfalso; omega) | skip))
          all_goals (first | rfl | omega | contradiction | skip)
        · simp only [f_X12_day, m_in, Option.bind_some, p_b01, p_b11, fa_lt, fa_le, fa_eq, Int32.reduceToInt, scase_l, scase_r, ocase_no, ocase_so, bnd, reduceIte, Int.reduceEq, Int.reduceLT, Int.reduceLE, not_true_eq_false, not_false_eq_true]
          repeat' (first | (simp only [f_X12_day, m_in, Option.bind_some, p_b01, p_b11, fa_lt, fa_le, fa_eq, Int32.reduceToInt, scase_l, scase_r, ocase_no, ocase_so, bnd, reduceIte, Int.reduceEq, Int.reduceLT, Int.reduceLE, not_true_eq_false, not_false_eq_true]) | (split <;> first | (exfalso; omega) | skip))
          all_goals (first | rfl | omega | contradiction | skip)
  · refine ⟨I, -5, I, ?_, ?_, h⟩
    · simp only [f_X11_day, Option.bind_some, p_b01, p_b11, fa_lt, fa_le, fa_eq, Int32.reduceToInt, scase_l, scase_r, ocase_no, ocase_so, bnd, reduceIte, Int.reduceEq, Int.reduceLT, Int.reduceLE, not_true_eq_false, not_false_eq_true]
      repeat' (first | (simp only [f_X11_day, Option.bind_some, p_b01, p_b11, fa_lt, fa_le, fa_eq, Int32.reduceToInt, scase_l, scase_r, ocase_no, ocase_so, bnd, reduceIte, Int.reduceEq, Int.reduceLT, Int.reduceLE, not_true_eq_false, not_false_eq_true]) | (split <;> first | (exfalso; omega) | skip))
      all_goals (first | rfl | omega | contradiction | skip)
    · simp only [f_X12_day, m_in, Option.bind_some, p_b01, p_b11, fa_lt, fa_le, fa_eq, Int32.reduceToInt, scase_l, scase_r, ocase_no, ocase_so, bnd, reduceIte, Int.reduceEq, Int.reduceLT, Int.reduceLE, not_true_eq_false, not_false_eq_true]
      repeat' (first | (simp only [f_X12_day, m_in, Option.bind_some, p_b01, p_b11, fa_lt, fa_le, fa_eq, Int32.reduceToInt, scase_l, scase_r, ocase_no, ocase_so, bnd, reduceIte, Int.reduceEq, Int.reduceLT, Int.reduceLE, not_true_eq_false, not_false_eq_true]) | (split <;> first | (exfalso; omega) | skip))
      all_goals (first | rfl | omega | contradiction | skip)
theorem law_now {ρ : Rh} {I : Nat → Nat → Int32} (hl : vLaws ρ I) (hf : vForce ρ I) : ∃ t a : Nat, (t : Int) < (I 89 17).toInt ∧ t < 6 ∧ I 89 18 = Int32.ofNat t ∧ ρ.1 42 6 = some a ∧ ρ.1 34 t = some a ∧ vLaw1 ρ I t a := by
  obtain ⟨t, h1, h2, h3⟩ := hf
  obtain ⟨l1, l2, l3⟩ := hl
  unfold bw at l2
  obtain ⟨a, l4, l5⟩ := (l3 t (by omega)).1 h1
  exact ⟨t, a, h1, by omega, h2, h3.trans l4, l4, l5⟩
theorem op_boatTold {ρ : Rh} {I : Nat → Nat → Int32} {J : Nat → Nat → Int64} (N : Nat) (h : Inv ρ I J) (w : Int32) : ∃ r, f_X11_boatTold N ρ I J w = some r ∧ f_X12_boatTold N ρ I J w = some r := by
  obtain ⟨sh, hm, ht, hd, hp, hs, hr, hl, hf, hi, hw⟩ := id h
  obtain ⟨t1, t2, t3, t4, t5, t6, t7, t8⟩ := id ht
  obtain ⟨t, a, f1, f2, f3, f4, f5, b, hh, n, f6, f7, f8, f9⟩ := law_now hl hf
  suffices key : f_X11_boatTold N ρ I J w = f_X12_boatTold N ρ I J w by
    have ex : ∃ r, f_X12_boatTold N ρ I J w = some r := by
      unfold f_X12_boatTold
      repeat' (first | exact ⟨_, rfl⟩ | split)
    obtain ⟨r, hr⟩ := ex
    exact ⟨r, key.trans hr, hr⟩
  unfold f_X12_boatTold
  by_cases h0 : w = 0
  · subst h0; simp [f_X11_boatTold, t1]; exact ⟨by decide, t1⟩
  by_cases h1 : w = 1
  · subst h1; simp [f_X11_boatTold, t2]; exact ⟨by decide, t2⟩
  by_cases h2 : w = 2
  · subst h2; simp [f_X11_boatTold, t3]; exact ⟨by decide, t3⟩
  by_cases h3 : w = 3
  · subst h3; simp [f_X11_boatTold, t4]; exact ⟨by decide, t4⟩
  by_cases h4 : w = 4
  · subst h4; simp [f_X11_boatTold, hm.1]
  by_cases h5 : w = 5
  · subst h5; simp [f_X11_boatTold, hr.1]
  by_cases h6 : w = 6
  · subst h6; simp [f_X11_boatTold, hl.1]
  by_cases h7 : w = 7
  · subst h7; simp [f_X11_boatTold, f4, f6, f8, f3]
  by_cases h8 : w = 8
  · subst h8; simp [f_X11_boatTold, hp.1]
  simp [f_X11_boatTold, h0, h1, h2, h3, h4, h5, h6, h7, h8]
theorem op_force {ρ : Rh} {I : Nat → Nat → Int32} {J : Nat → Nat → Int64} (N : Nat) (h : Inv ρ I J) (w : Int32) : ∃ ρ1 r I2, f_X11_force N ρ I J w = some (ρ1, r) ∧ f_X12_force N ρ1 I J w = some (I2, r) ∧ Inv ρ1 I2 J := by
  obtain ⟨sh, hm, ht, hd, hp, hs, hr, hl, hf, hi, hw⟩ := id h
  obtain ⟨t, a, f1, f2, f3, f4, f5, f6⟩ := law_now hl hf
  have f7 := f6
  obtain ⟨b, hh, n, f7, f8, f9, f10⟩ := f7
  obtain ⟨l1, l2, l3⟩ := id hl
  unfold bw at l2
  have e : (I 89 17 - 1).toInt = (I 89 17).toInt - 1 := p_sub (b := 1) (by show _ ≤ _ - (1 : Int); omega) (by show _ - (1 : Int) < _; omega)
  by_cases hb : 0 ≤ w.toInt ∧ w.toInt < (I 89 17).toInt
  · have tt := p_tnc w hb.1
    obtain ⟨a', g1, g2⟩ := (l3 (tn w) (by omega)).1 (by omega)
    refine ⟨(u2 ρ.1 42 6 (some a'), ρ.2), I 89 18, u2 I 89 18 w, ?_, ?_, ?_⟩
    · simp only [f_X11_force, Option.bind_some, p_b01, p_b11, fa_lt, fa_le, fa_eq, Int32.reduceToInt, scase_l, scase_r, ocase_no, ocase_so, bnd, reduceIte, Int.reduceEq, Int.reduceLT, Int.reduceLE, not_true_eq_false, not_false_eq_true]
      rw [if_neg (by omega), if_neg (by omega), if_pos (by omega)]
      simp only [g1, f4, f7, f9, f3, Option.bind_some, p_b01, p_b11, fa_lt, fa_le, fa_eq, Int32.reduceToInt, scase_l, scase_r, ocase_no, ocase_so, bnd, reduceIte, Int.reduceEq, Int.reduceLT, Int.reduceLE, not_true_eq_false, not_false_eq_true]
    · simp only [f_X12_force, m_in, e, Option.bind_some, p_b01, p_i0]
      rw [if_neg (by omega)]
    · have Sh' : Sh (u2 ρ.1 42 6 (some a'), ρ.2) := sh.putB sh.k42 (some a')
      refine ⟨Sh', fr_vMen (fun a k hh => u2_fr (by omega)) hm, fr_vTold (fun a k hh => u2_fr (by omega)) ht, fr_vDays (fun a k hh => u2_fr (by omega)) hd, fr_vTape (fun a k hh => u2_fr (by omega)) hp, fr_vSheet (fun a k hh => u2_fr (by omega)) hs, gr_vRules (Grw.same sh _) (fun a k hh => u2_fr (by omega)) (fr_vRules (fun a k hh => u2_fr (by omega)) hr), gr_vLaws (Grw.same sh _) (fun a k hh => u2_fr (by omega)) (fr_vLaws (fun a k hh => u2_fr (by omega)) hl), ?_, gr_vImg (Grw.same sh _) (fun a k hh => u2_fr (by omega)) (fr_vImg (fun a k hh => u2_fr (by omega)) hi), hw⟩
      refine ⟨tn w, ?_, ?_, ?_⟩
      · rw [u2_fr (by omega)]; omega
      · rw [u2_at, p_tnb hb.1]
      · show u2 ρ.1 42 6 (some a') 42 6 = u2 ρ.1 42 6 (some a') 34 (tn w)
        rw [u2_at, u2_fr (by omega), g1]
  · refine ⟨ρ, -2, I, ?_, ?_, h⟩
    · by_cases hc : 0 ≤ w.toInt ∧ w.toInt < 6
      · have tt := p_tnc w hc.1
        have g1 := (l3 (tn w) (by omega)).2 (by omega)
        simp only [f_X11_force, Option.bind_some, p_b01, p_b11, fa_lt, fa_le, fa_eq, Int32.reduceToInt, scase_l, scase_r, ocase_no, ocase_so, bnd, reduceIte, Int.reduceEq, Int.reduceLT, Int.reduceLE, not_true_eq_false, not_false_eq_true]
        rw [if_neg (by omega), if_neg (by omega), if_pos (by omega)]
        simp only [g1, Option.bind_some, p_b01, p_b11, fa_lt, fa_le, fa_eq, Int32.reduceToInt, scase_l, scase_r, ocase_no, ocase_so, bnd, reduceIte, Int.reduceEq, Int.reduceLT, Int.reduceLE, not_true_eq_false, not_false_eq_true]
      · simp only [f_X11_force, Option.bind_some, p_b01, p_b11, fa_lt, fa_le, fa_eq, Int32.reduceToInt, scase_l, scase_r, ocase_no, ocase_so, bnd, reduceIte, Int.reduceEq, Int.reduceLT, Int.reduceLE, not_true_eq_false, not_false_eq_true]
        by_cases hn : w.toInt < 0
        · rw [if_pos hn]; rfl
        · rw [if_neg hn, if_pos (by omega)]; rfl
    · simp only [f_X12_force, m_in, e, Option.bind_some, p_b01, p_i0]
      rw [if_pos (by omega)]
