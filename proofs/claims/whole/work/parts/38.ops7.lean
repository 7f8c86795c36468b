/-! ===== the pure layer: men out of a sheet ===== -/
def VR (I K : Nat → Nat → Int32) : Prop := I 42 0 = K 89 0 ∧ bw (K 89 0) 0 8 ∧ (∀ k : Nat, k < 8 → I 43 k = K 90 k ∧ I 44 k = K 91 k) ∧ (∀ k : Nat, (k : Int) < (K 89 0).toInt → bw (K 90 k) 1 99 ∧ bw (K 91 k) 0 9)
theorem man_two {ρ : Rh} {I K : Nat → Nat → Int32} {J : Nat → Nat → Int64} (N : Nat) (h : VR I K) (a b : Int32) : ∃ I1 v K1, f_X11_man N ρ I J a b = some (I1, v) ∧ f_X12_man N ρ K J a b = some (K1, v) ∧ VR I1 K1 ∧ (∀ q k : Nat, ¬ ((q = 42 ∧ k = 0) ∨ q = 43 ∨ q = 44) → I1 q k = I q k) ∧ (∀ q k : Nat, ¬ ((q = 89 ∧ k = 0) ∨ q = 90 ∨ q = 91) → K1 q k = K q k) ∧ (K 89 0).toInt ≤ (K1 89 0).toInt := by
  obtain ⟨m1, m2, m3, m4⟩ := id h
  unfold bw at m2
  by_cases hb : 1 ≤ a.toInt ∧ a.toInt ≤ 99 ∧ 0 ≤ b.toInt ∧ b.toInt ≤ 9
  · by_cases h8 : (K 89 0).toInt = 8
    · refine ⟨I, -4, K, ?_, ?_, h, fun _ _ _ => rfl, fun _ _ _ => rfl, Int.le_refl _⟩
      · simp only [f_X11_man, c_isStore, c_isRows, m1, Option.bind_some, p_b01, p_b11, fa_lt, fa_le, fa_eq, Int32.reduceToInt, scase_l, scase_r, ocase_no, ocase_so, bnd, reduceIte, Int.reduceEq, Int.reduceLT, Int.reduceLE, not_true_eq_false, not_false_eq_true]
        repeat' (first | (simp only [f_X11_man, c_isStore, c_isRows, m1, Option.bind_some, p_b01, p_b11, fa_lt, fa_le, fa_eq, Int32.reduceToInt, scase_l, scase_r, ocase_no, ocase_so, bnd, reduceIte, Int.reduceEq, Int.reduceLT, Int.reduceLE, not_true_eq_false, not_false_eq_true]) | (split <;> first | (exfalso; omega) | skip))
        all_goals (first | rfl | omega | contradiction | skip)
      · simp only [f_X12_man, m_in, Option.bind_some, p_b01, p_b11, fa_lt, fa_le, fa_eq, Int32.reduceToInt, scase_l, scase_r, ocase_no, ocase_so, bnd, reduceIte, Int.reduceEq, Int.reduceLT, Int.reduceLE, not_true_eq_false, not_false_eq_true]
        repeat' (first | (simp only [f_X12_man, m_in, Option.bind_some, p_b01, p_b11, fa_lt, fa_le, fa_eq, Int32.reduceToInt, scase_l, scase_r, ocase_no, ocase_so, bnd, reduceIte, Int.reduceEq, Int.reduceLT, Int.reduceLE, not_true_eq_false, not_false_eq_true]) | (split <;> first | (exfalso; omega) | skip))
        all_goals (first | rfl | omega | contradiction | skip)
    · have e2 : (K 89 0 + 1).toInt = (K 89 0).toInt + 1 := p_add (b := 1) (by show _ ≤ _ + (1 : Int); omega) (by show _ + (1 : Int) < _; omega)
      have x := p_ix (a := K 89 0) (n := 8) (by omega) (by omega)
      have tt := p_tnc (K 89 0) (by omega)
      refine ⟨u2 (u2 (u2 I 43 (tn (K 89 0)) a) 44 (tn (K 89 0)) b) 42 0 (K 89 0 + 1), K 89 0 + 1 - 1, u2 (u2 (u2 K 90 (tn (K 89 0)) a) 91 (tn (K 89 0)) b) 89 0 (K 89 0 + 1), ?_, ?_, ?_, fun q k hh => (u2_fr (by omega)).trans ((u2_fr (by omega)).trans (u2_fr (by omega))), fun q k hh => (u2_fr (by omega)).trans ((u2_fr (by omega)).trans (u2_fr (by omega))), ?_⟩
      · simp only [f_X11_man, c_isStore, c_isRows, m1, Option.bind_some, p_b01]
        rw [if_neg (by omega), if_neg (by omega), if_neg (by rw [fa_lt]; show ¬ _ < (0 : Int); omega), if_pos (by rw [fa_lt]; show _ < (8 : Int); omega), if_pos x, if_pos x]
      · simp only [f_X12_man, m_in, Option.bind_some, p_b01]
        rw [if_neg (by show ¬ ¬ ((1 : Int) ≤ _ ∧ _ ≤ (99 : Int)); omega), if_neg (by show ¬ ¬ ((0 : Int) ≤ _ ∧ _ ≤ (9 : Int)); omega), if_neg (by rw [fa_eq]; exact h8), if_pos x, if_pos x]
      · refine ⟨?_, ?_, ?_, ?_⟩
        · simp [u2_ap]
        · simp [u2_ap, bw, e2, -Int32.toInt_add]; omega
        · intro k hk
          have := m3 k hk
          simp [u2_ap, this]
        · intro k hk
          have hk : (k : Int) < (K 89 0).toInt + 1 := by rw [← e2]; simpa [u2_ap] using hk
          by_cases hq : k = tn (K 89 0)
          · subst hq
            simp [u2_ap, bw]; omega
          · have := m4 k (by omega)
            simp [u2_ap, hq, this]
      · rw [u2_at, e2]; omega
  · refine ⟨I, -2, K, ?_, ?_, h, fun _ _ _ => rfl, fun _ _ _ => rfl, Int.le_refl _⟩
    · simp only [f_X11_man, c_isStore, c_isRows, m1, Option.bind_some, p_b01, p_b11, fa_lt, fa_le, fa_eq, Int32.reduceToInt, scase_l, scase_r, ocase_no, ocase_so, bnd, reduceIte, Int.reduceEq, Int.reduceLT, Int.reduceLE, not_true_eq_false, not_false_eq_true]
      repeat' (first | (simp only [f_X11_man, c_isStore, c_isRows, m1, Option.bind_some, p_b01, p_b11, fa_lt, fa_le, fa_eq, Int32.reduceToInt, scase_l, scase_r, ocase_no, ocase_so, bnd, reduceIte, Int.reduceEq, Int.reduceLT, Int.reduceLE, not_true_eq_false, not_false_eq_true]) | (split <;> first | (exfalso; omega) | skip))
      all_goals (first | rfl | omega | contradiction | skip)
    · simp only [f_X12_man, m_in, Option.bind_some, p_b01, p_b11, fa_lt, fa_le, fa_eq, Int32.reduceToInt, scase_l, scase_r, ocase_no, ocase_so, bnd, reduceIte, Int.reduceEq, Int.reduceLT, Int.reduceLE, not_true_eq_false, not_false_eq_true]
      repeat' (first | (simp only [f_X12_man, m_in, Option.bind_some, p_b01, p_b11, fa_lt, fa_le, fa_eq, Int32.reduceToInt, scase_l, scase_r, ocase_no, ocase_so, bnd, reduceIte, Int.reduceEq, Int.reduceLT, Int.reduceLE, not_true_eq_false, not_false_eq_true]) | (split <;> first | (exfalso; omega) | skip))
      all_goals (first | rfl | omega | contradiction | skip)
/-- the end of a loop that may have returned -/
def eoS {α : Type} (b : Bool) (x : α) : α ⊕ α := if b then Sum.inl x else Sum.inr x
theorem eoS_inj {α : Type} {b c : Bool} {x y : α} (h : eoS b x = eoS c y) : b = c ∧ x = y := by
  cases b <;> cases c <;> simp [eoS] at h <;> simp [h]
theorem men_two {ρ : Rh} (sh : Sh ρ) {J : Nat → Nat → Int64} (N : Nat) {s p3 p4 : Int32} {n : Nat} (h0 : 0 ≤ s.toInt) (h1 : s.toInt < 4) (hn : n ≤ 8) (hp4 : p4 = Int32.ofNat n) : ∀ (d i fuel fuel' : Nat) (I K : Nat → Nat → Int32) (c : Int32), i + d = n → d < fuel → d < fuel' → VR I K → I (81 + 2 * tn s) 1 = K 108 (tn s) → bw (K 108 (tn s)) 0 40 → (∀ k, k < 40 → I (82 + 2 * tn s) k = K 109 (40 * tn s + k)) → (i = 0 ∨ (0 ≤ p3.toInt ∧ p3.toInt + 2 * i ≤ 40)) → ∃ (b : Bool) (I1 K1 : Nat → Nat → Int32) (v : Int32), f_X11_men_65 N J ρ p3 p4 (81 + 2 * tn s) fuel I c (Int32.ofNat i) = some (eoS b (I1, v)) ∧ f_X12_men_64 N J ρ s p3 p4 fuel' K c (Int32.ofNat i) = some (eoS b (K1, v)) ∧ VR I1 K1 ∧ (∀ q k : Nat, ¬ ((q = 42 ∧ k = 0) ∨ q = 43 ∨ q = 44) → I1 q k = I q k) ∧ (∀ q k : Nat, ¬ ((q = 89 ∧ k = 0) ∨ q = 90 ∨ q = 91) → K1 q k = K q k) ∧ (K 89 0).toInt ≤ (K1 89 0).toInt
  | 0, i, fuel + 1, fuel' + 1, I, K, c, z1, z2, z3, hv, hz, hb, hc, hi => by
    refine ⟨false, I, K, c, ?_, ?_, hv, fun _ _ _ => rfl, fun _ _ _ => rfl, Int.le_refl _⟩
    · rw [f_X11_men_65.eq_2, if_pos (by rw [hp4]; exact (p_ge (by omega) (by omega)).mpr (by omega))]; rfl
    · rw [f_X12_men_64.eq_2, if_pos (by rw [hp4]; exact (p_ge (by omega) (by omega)).mpr (by omega))]; rfl
  | d + 1, i, fuel + 1, fuel' + 1, I, K, c, z1, z2, z3, hv, hz, hb, hc, hi => by
    have ts := p_tnc s h0
    have h4 : tn s < 4 := by omega
    obtain ⟨k1, k2, k3⟩ := sheet_k sh h4
    have x := p_ix (a := s) (n := 4) h0 (by show _ < (4 : Int); omega)
    have ei := p_nI (n := i) (by omega)
    have e1 : (2 * Int32.ofNat i).toInt = 2 * i := by rw [p_mul (a := 2) (by rw [ei]; show _ ≤ (2 : Int) * _; omega) (by rw [ei]; show (2 : Int) * _ < _; omega), ei]; rfl
    have cI : ¬ p4 ≤ Int32.ofNat i := by rw [hp4]; exact fun z => absurd ((p_ge (by omega) (by omega)).mp z) (by omega)
    unfold bw at hb
    have room : ∀ pl : Int32, f_X7_hasRoom N ρ I J (81 + 2 * tn s) pl 2 = some (if 2 ≤ (K 108 (tn s)).toInt ∧ 0 ≤ pl.toInt ∧ pl.toInt ≤ (K 108 (tn s)).toInt - 2 then 1 else 0) := by
      intro pl
      unfold f_X7_hasRoom
      rw [k1, hz, if_neg (by decide), if_pos rfl]
      have e : (K 108 (tn s) - 2).toInt = (K 108 (tn s)).toInt - 2 := p_sub (b := 2) (by show _ ≤ _ - (2 : Int); omega) (by show _ - (2 : Int) < _; omega)
      by_cases a1 : (K 108 (tn s)).toInt < 2
      · rw [if_pos (by rw [fa_lt]; exact a1), if_neg (by omega)]
      by_cases a2 : pl.toInt < 0
      · rw [if_neg (by rw [fa_lt]; exact a1), if_pos (by rw [fa_lt]; exact a2), if_neg (by omega)]
      by_cases a3 : (K 108 (tn s)).toInt - 2 < pl.toInt
      · rw [if_neg (by rw [fa_lt]; exact a1), if_neg (by rw [fa_lt]; exact a2), if_pos (by rw [fa_lt, e]; exact a3), if_neg (by omega)]
      · rw [if_neg (by rw [fa_lt]; exact a1), if_neg (by rw [fa_lt]; exact a2), if_neg (by rw [fa_lt, e]; exact a3), if_pos (by omega)]
    have e8 : (K 108 (tn s) - 2).toInt = (K 108 (tn s)).toInt - 2 := p_sub (b := 2) (by show _ ≤ _ - (2 : Int); omega) (by show _ - (2 : Int) < _; omega)
    have out : ¬ (0 ≤ p3.toInt ∧ p3.toInt + 2 * i ≤ (K 108 (tn s)).toInt - 2) → ∃ (b : Bool) (I1 K1 : Nat → Nat → Int32) (v : Int32), f_X11_men_65 N J ρ p3 p4 (81 + 2 * tn s) (fuel + 1) I c (Int32.ofNat i) = some (eoS b (I1, v)) ∧ f_X12_men_64 N J ρ s p3 p4 (fuel' + 1) K c (Int32.ofNat i) = some (eoS b (K1, v)) ∧ VR I1 K1 ∧ (∀ q k : Nat, ¬ ((q = 42 ∧ k = 0) ∨ q = 43 ∨ q = 44) → I1 q k = I q k) ∧ (∀ q k : Nat, ¬ ((q = 89 ∧ k = 0) ∨ q = 90 ∨ q = 91) → K1 q k = K q k) ∧ (K 89 0).toInt ≤ (K1 89 0).toInt := by
      intro hno
      have rp := p_rng p3
      have e0 : i = 0 → (p3 + 2 * Int32.ofNat i).toInt = p3.toInt := by
        intro z; subst z
        rw [p_add (by omega) (by omega), e1]; omega
      have e9 : 0 ≤ p3.toInt ∧ p3.toInt + 2 * i ≤ 40 → (p3 + 2 * Int32.ofNat i).toInt = p3.toInt + 2 * i := by
        intro z
        rw [p_add (by omega) (by omega), e1]
      refine ⟨true, I, K, -12, ?_, ?_, hv, fun _ _ _ => rfl, fun _ _ _ => rfl, Int.le_refl _⟩
      · rw [f_X11_men_65.eq_2, if_neg cI, if_pos k1, room]
        simp only [Option.bind_some, p_b01]
        rw [if_pos]
        · rfl
        · rcases hi with hi | hi
          · have := e0 hi; omega
          · have := e9 hi; omega
      · rw [f_X12_men_64.eq_2, if_neg cI]
        by_cases a1 : p3.toInt < 0
        · rw [if_pos (by rw [fa_lt]; exact a1)]; rfl
        rw [if_neg (by rw [fa_lt]; exact a1)]
        have e5 : (p3 + 2 * Int32.ofNat i).toInt = p3.toInt + 2 * i := by
          rcases hi with hi | hi
          · have := e0 hi; omega
          · exact e9 hi
        rw [if_neg (by rw [fa_lt, e5]; omega), if_pos x, if_neg (by rw [fa_le, e5, e8]; omega)]
        rfl
    by_cases hin : 0 ≤ p3.toInt ∧ p3.toInt + 2 * i ≤ (K 108 (tn s)).toInt - 2
    · have e5 : (p3 + 2 * Int32.ofNat i).toInt = p3.toInt + 2 * i := by
        rw [p_add (by omega) (by omega), e1]
      obtain ⟨pl, hpl⟩ : ∃ pl, pl = p3 + 2 * Int32.ofNat i := ⟨_, rfl⟩
      rw [← hpl] at e5
      have e6 : (pl + 1).toInt = pl.toInt + 1 := p_add (b := 1) (by show _ ≤ _ + (1 : Int); omega) (by show _ + (1 : Int) < _; omega)
      have tp := p_tnc pl (by omega)
      have tp1 := p_tnc (pl + 1) (by omega)
      obtain ⟨y1, y2⟩ := cell_ix h0 h1 (i := pl) (by omega) (by omega)
      obtain ⟨y3, y4⟩ := cell_ix h0 h1 (i := pl + 1) (by omega) (by omega)
      have y5 : 40 * s + pl + 1 = 40 * s + (pl + 1) := by rw [Int32.add_assoc]
      have xp := p_ix (a := pl) (n := 40) (by omega) (by show _ < (40 : Int); omega)
      have xp1 := p_ix (a := pl + 1) (n := 40) (by omega) (by show _ < (40 : Int); omega)
      have w1 := hc (tn pl) (by omega)
      have w2 := hc (tn (pl + 1)) (by omega)
      obtain ⟨I1, v, K1, g1, g2, g3, g4, g5, g6⟩ := man_two (ρ := ρ) (J := J) N hv (K 109 (40 * tn s + tn pl)) (K 109 (40 * tn s + tn (pl + 1)))
      obtain ⟨b, I2, K2, v2, f1, f2, f3, f4, f5, f6⟩ := men_two sh (J := J) N (p3 := p3) h0 h1 hn hp4 d (i + 1) fuel fuel' I1 K1 (c + if v < 0 then 0 else 1) (by omega) (by omega) (by omega) g3 (by rw [g4 _ _ (by omega), g5 _ _ (by omega)]; exact hz) (by rw [g5 _ _ (by omega)]; exact hb) (fun k hk => by rw [g4 _ _ (by omega), g5 _ _ (by omega)]; exact hc k hk) (Or.inr (by omega))
      refine ⟨b, I2, K2, v2, ?_, ?_, f3, fun q k z => (f4 q k z).trans (g4 q k z), fun q k z => (f5 q k z).trans (g5 q k z), by omega⟩
      · rw [f_X11_men_65.eq_2, if_neg cI, if_pos k1, ← hpl, room]
        simp only [Option.bind_some, p_b01]
        rw [if_neg (by omega), k2]
        simp only [Option.bind_some, k3]
        rw [if_pos trivial, if_pos xp, if_pos xp1, w1, w2, g1]
        simp only [Option.bind_some]
        rw [← f1, ← p_succ (by omega)]
        by_cases hv0 : v < 0
        · rw [if_pos hv0, if_pos hv0, Int32.add_zero]; rfl
        · rw [if_neg hv0, if_neg hv0]; rfl
      · rw [f_X12_men_64.eq_2, if_neg cI, if_neg (by rw [fa_lt]; show ¬ _ < (0 : Int); omega), ← hpl, if_neg (by rw [fa_lt]; omega), if_pos x, if_pos (by rw [fa_le, e8]; omega)]
        simp only [bnd]
        rw [if_pos y1, y5, if_pos y3, y2, y4, g2]
        simp only [Option.bind_some]
        rw [← f2, ← p_succ (by omega)]
        by_cases hv0 : v < 0
        · rw [if_pos hv0, if_pos hv0]; rfl
        · rw [if_neg hv0, if_neg hv0]; rfl
    · exact out hin
theorem op_men {ρ : Rh} {I : Nat → Nat → Int32} {J : Nat → Nat → Int64} (N : Nat) (h : Inv ρ I J) (hN : 200 ≤ N) (s w p n : Int32) : ∃ I1 r I2, f_X11_men N ρ I J s w p n = some (I1, r) ∧ f_X12_men N ρ I1 J s w p n = some (I2, r) ∧ Inv ρ I2 J := by
  obtain ⟨sh, hm, ht, hd, hp, hs, hr, hl, hf, hi, hw⟩ := id h
  by_cases hb : 0 ≤ s.toInt ∧ s.toInt < 4
  · have g := sheet_in (ρ := ρ) (I := I) (J := J) N hb.1 hb.2
    have ts := p_tnc s hb.1
    have h4 : tn s < 4 := by omega
    obtain ⟨k1, k2, k3⟩ := sheet_k sh h4
    have x := p_ix (a := s) (n := 4) hb.1 (by show _ < (4 : Int); omega)
    have ms := c_miss sh (J := J) N hs h4
    obtain ⟨q1, q2, q3, q4, q5, q6⟩ := hs (tn s) h4
    by_cases hw2 : 0 ≤ w.toInt ∧ w.toInt ≤ 2 ∧ 0 ≤ n.toInt ∧ n.toInt ≤ 8
    · by_cases hm1 : (I 107 (tn s)).toInt = -1
      · refine ⟨I, -11, I, ?_, ?_, h⟩
        · unfold f_X11_men
          rw [g]
          simp only [Option.bind_some, ocase_so]
          rw [if_neg (by rw [fa_lt]; show ¬ _ < (0 : Int); omega), if_neg (by rw [fa_lt]; show ¬ (2 : Int) < _; omega), if_neg (by rw [fa_lt]; show ¬ _ < (0 : Int); omega), if_pos (by rw [fa_le]; show _ ≤ (8 : Int); omega), if_pos k1, ms]
          simp only [Option.bind_some, p_b01]
          rw [if_neg (by omega)]
        · unfold f_X12_men
          simp only [m_in, Option.bind_some, p_b01]
          rw [if_neg (by show ¬ ¬ ((0 : Int) ≤ _ ∧ _ ≤ (3 : Int)); omega), if_neg (by show ¬ ¬ ((0 : Int) ≤ _ ∧ _ ≤ (2 : Int)); omega), if_neg (by show ¬ ¬ ((0 : Int) ≤ _ ∧ _ ≤ (8 : Int)); omega), if_pos x, if_pos (p_eq hm1)]
      · have hm2 : ¬ I 107 (tn s) = -1 := fun z => hm1 (by rw [z]; rfl)
        by_cases hsw : I 107 (tn s) = w
        · have vr : VR I I := ⟨hm.1, hm.2.1, hm.2.2.1, hm.2.2.2.1⟩
          have tq := p_tnc n hw2.2.2.1
          obtain ⟨b, I1, K1, v, e1, e2, e3, e4, e5, e6⟩ := men_two sh (J := J) N (p3 := p) hb.1 hb.2 (n := tn n) (by omega) (p_tnb hw2.2.2.1).symm (tn n) 0 N N I I 0 (by omega) (by omega) (by omega) vr q2 q4 q6 (Or.inl rfl)
          have vr1 : VR I I1 := by
            obtain ⟨a1, a2, a3, a4⟩ := vr
            unfold VR
            have t0 := e4 89 0 (by omega)
            have t1 := fun k => e4 90 k (by omega)
            have t2 := fun k => e4 91 k (by omega)
            simp only [t0, t1, t2]
            exact ⟨a1, a2, a3, a4⟩
          obtain ⟨b', I1', K1', v', d1, d2, d3, d4, d5, d6⟩ := men_two sh (J := J) N (p3 := p) hb.1 hb.2 (n := tn n) (by omega) (p_tnb hw2.2.2.1).symm (tn n) 0 N N I I1 0 (by omega) (by omega) (by omega) vr1 (by rw [e4 108 _ (by omega)]; exact q2) (by rw [e4 108 _ (by omega)]; exact q4) (fun k hk => by rw [e4 109 _ (by omega)]; exact q6 k hk) (Or.inl rfl)
          have ee := eoS_inj (Option.some.inj (e1.symm.trans d1))
          obtain ⟨rfl, ee2⟩ := ee
          have eI : I1 = I1' := congrArg Prod.fst ee2
          have ev : v = v' := congrArg Prod.snd ee2
          subst eI; subst ev
          refine ⟨I1, v, K1', ?_, ?_, ?_⟩
          · unfold f_X11_men
            rw [g]
            simp only [Option.bind_some, ocase_so]
            rw [if_neg (by rw [fa_lt]; show ¬ _ < (0 : Int); omega), if_neg (by rw [fa_lt]; show ¬ (2 : Int) < _; omega), if_neg (by rw [fa_lt]; show ¬ _ < (0 : Int); omega), if_pos (by rw [fa_le]; show _ ≤ (8 : Int); omega), if_pos k1, ms]
            simp only [Option.bind_some, p_b01]
            rw [if_pos hm1, if_pos (q1.trans hsw), show (0 : Int32) = Int32.ofNat 0 from rfl]
            rw [show Int32.ofNat 0 = (0 : Int32) from rfl] at e1 ⊢
            rw [e1]
            simp only [Option.bind_some]
            cases b <;> rfl
          · unfold f_X12_men
            have y7 : I1 107 (tn s) = I 107 (tn s) := e4 107 _ (by omega)
            simp only [m_in, Option.bind_some, p_b01, y7]
            rw [if_neg (by show ¬ ¬ ((0 : Int) ≤ _ ∧ _ ≤ (3 : Int)); omega), if_neg (by show ¬ ¬ ((0 : Int) ≤ _ ∧ _ ≤ (2 : Int)); omega), if_neg (by show ¬ ¬ ((0 : Int) ≤ _ ∧ _ ≤ (8 : Int)); omega), if_pos x, if_neg hm2, if_pos x, if_pos hsw]
            rw [show Int32.ofNat 0 = (0 : Int32) from rfl] at d2
            rw [d2]
            simp only [Option.bind_some]
            cases b <;> rfl
          · have A2 : ∀ q k : Nat, ¬ ((q = 42 ∧ k = 0) ∨ q = 43 ∨ q = 44 ∨ (q = 89 ∧ k = 0) ∨ q = 90 ∨ q = 91) → K1' q k = I q k := fun q k z => (d5 q k (by omega)).trans (e4 q k (by omega))
            refine ⟨sh, ?_, fr_vTold (fun a k hh => A2 a k (by omega)) ht, fr_vDays (fun a k hh => A2 a k (by omega)) hd, fr_vTape (fun a k hh => A2 a k (by omega)) hp, fr_vSheet (fun a k hh => A2 a k (by omega)) hs, fr_vRules (fun a k hh => A2 a k (by omega)) hr, fr_vLaws (fun a k hh => A2 a k (by omega)) hl, fr_vForce (fun a k hh => A2 a k (by omega)) hf, fr_vImg (fun a k hh => A2 a k (by omega)) hi, hw⟩
            obtain ⟨a1, a2, a3, a4⟩ := d3
            have t0 := d5 42 0 (by omega)
            have t1 := fun k => d5 43 k (by omega)
            have t2 := fun k => d5 44 k (by omega)
            have t3 := A2 89 24 (by omega)
            have t4 := A2 89 25 (by omega)
            have t5 := e4 89 0 (by omega)
            rw [t5] at d6
            refine ⟨t0.trans a1, a2, fun k hk => ⟨(t1 k).trans (a3 k hk).1, (t2 k).trans (a3 k hk).2⟩, a4, fun z => ?_⟩
            rw [t4]
            have := hm.2.2.2.2 (by rw [← t3]; exact z)
            omega
        · refine ⟨I, -13, I, ?_, ?_, h⟩
          · unfold f_X11_men
            rw [g]
            simp only [Option.bind_some, ocase_so]
            rw [if_neg (by rw [fa_lt]; show ¬ _ < (0 : Int); omega), if_neg (by rw [fa_lt]; show ¬ (2 : Int) < _; omega), if_neg (by rw [fa_lt]; show ¬ _ < (0 : Int); omega), if_pos (by rw [fa_le]; show _ ≤ (8 : Int); omega), if_pos k1, ms]
            simp only [Option.bind_some, p_b01]
            rw [if_pos hm1, if_neg (fun z => hsw (q1.symm.trans z))]
          · unfold f_X12_men
            simp only [m_in, Option.bind_some, p_b01]
            rw [if_neg (by show ¬ ¬ ((0 : Int) ≤ _ ∧ _ ≤ (3 : Int)); omega), if_neg (by show ¬ ¬ ((0 : Int) ≤ _ ∧ _ ≤ (2 : Int)); omega), if_neg (by show ¬ ¬ ((0 : Int) ≤ _ ∧ _ ≤ (8 : Int)); omega), if_pos x, if_neg hm2, if_pos x, if_neg hsw]
    · refine ⟨I, -2, I, ?_, ?_, h⟩
      · unfold f_X11_men
        rw [g]
        simp only [Option.bind_some, ocase_so]
        by_cases c1 : w.toInt < 0
        · rw [if_pos (by rw [fa_lt]; exact c1)]
        rw [if_neg (by rw [fa_lt]; exact c1)]
        by_cases c2 : 2 < w.toInt
        · rw [if_pos (by rw [fa_lt]; exact c2)]
        rw [if_neg (by rw [fa_lt]; exact c2)]
        by_cases c3 : n.toInt < 0
        · rw [if_pos (by rw [fa_lt]; exact c3)]
        rw [if_neg (by rw [fa_lt]; exact c3), if_neg (by rw [fa_le]; show ¬ _ ≤ (8 : Int); omega)]
      · unfold f_X12_men
        simp only [m_in, Option.bind_some, p_b01]
        rw [if_neg (by show ¬ ¬ ((0 : Int) ≤ _ ∧ _ ≤ (3 : Int)); omega)]
        by_cases c1 : 0 ≤ w.toInt ∧ w.toInt ≤ 2
        · rw [if_neg (by show ¬ ¬ ((0 : Int) ≤ _ ∧ _ ≤ (2 : Int)); omega), if_pos (by show ¬ ((0 : Int) ≤ _ ∧ _ ≤ (8 : Int)); omega)]
        · rw [if_pos (by show ¬ ((0 : Int) ≤ _ ∧ _ ≤ (2 : Int)); omega)]
  · have g := sheet_out (ρ := ρ) (I := I) (J := J) N hb
    refine ⟨I, -2, I, ?_, ?_, h⟩
    · unfold f_X11_men
      rw [g]
      simp only [Option.bind_some, ocase_no]
    · unfold f_X12_men
      simp only [m_in, Option.bind_some, p_b01]
      rw [if_pos (by show ¬ ((0 : Int) ≤ _ ∧ _ ≤ (3 : Int)); omega)]
