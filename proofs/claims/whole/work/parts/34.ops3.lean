/-! ===== the pure layer: rules told, sheets ===== -/
theorem rule_in {ρ : Rh} {I : Nat → Nat → Int32} (J : Nat → Nat → Int64) (N : Nat) (hr : vRules ρ I) {r : Int32} (h0 : 0 ≤ r.toInt) (h1 : r.toInt < (I 89 9).toInt) : ∃ a, f_X11_ruleAt N ρ I J r = some (some a) ∧ vRule1 ρ I (tn r) a := by
  obtain ⟨r1, r2, r3⟩ := hr
  unfold bw at r2
  have tt := p_tnc r h0
  obtain ⟨a, g1, g2⟩ := (r3 (tn r) (by omega)).1 (by omega)
  refine ⟨a, ?_, g2⟩
  unfold f_X11_ruleAt
  rw [if_neg (by rw [fa_lt]; show ¬ _ < (0 : Int); omega), if_neg (by rw [fa_le]; show ¬ (8 : Int) ≤ _; omega), if_pos (p_ix h0 (by show _ < (8 : Int); omega)), g1]
  rfl
theorem rule_out {ρ : Rh} {I : Nat → Nat → Int32} (J : Nat → Nat → Int64) (N : Nat) (hr : vRules ρ I) {r : Int32} (h : ¬ (0 ≤ r.toInt ∧ r.toInt < (I 89 9).toInt)) : f_X11_ruleAt N ρ I J r = some none := by
  obtain ⟨r1, r2, r3⟩ := hr
  unfold f_X11_ruleAt
  by_cases h0 : r.toInt < 0
  · rw [if_pos (by rw [fa_lt]; exact h0)]
  rw [if_neg (by rw [fa_lt]; exact h0)]
  by_cases h8 : 8 ≤ r.toInt
  · rw [if_pos (by rw [fa_le]; exact h8)]
  have tt := p_tnc r (by omega)
  rw [if_neg (by rw [fa_le]; exact h8), if_pos (p_ix (by omega) (by show _ < (8 : Int); omega)), (r3 (tn r) (by omega)).2 (by omega)]
  rfl
theorem rule_isR {ρ : Rh} {I : Nat → Nat → Int32} {r a : Nat} (h : vRule1 ρ I r a) : isR (ρ.2.1 a) := by
  rw [h.2.2.1]
  refine ⟨rfl, ?_⟩
  show kcl _ = 6 ∨ _
  unfold kcl
  repeat' (first | omega | split)
theorem kcl_six {k : Int32} (h : bw k 0 5) : k = 0 ∨ k = 1 ∨ k = 2 ∨ k = 3 ∨ k = 4 ∨ k = 5 := by
  unfold bw at h
  have c : k.toInt = 0 ∨ k.toInt = 1 ∨ k.toInt = 2 ∨ k.toInt = 3 ∨ k.toInt = 4 ∨ k.toInt = 5 := by omega
  rcases c with c | c | c | c | c | c
  · exact Or.inl (p_eq c)
  · exact Or.inr (Or.inl (p_eq c))
  · exact Or.inr (Or.inr (Or.inl (p_eq c)))
  · exact Or.inr (Or.inr (Or.inr (Or.inl (p_eq c))))
  · exact Or.inr (Or.inr (Or.inr (Or.inr (Or.inl (p_eq c)))))
  · exact Or.inr (Or.inr (Or.inr (Or.inr (Or.inr (p_eq c)))))
theorem told_for {ρ : Rh} {I : Nat → Nat → Int32} (J : Nat → Nat → Int64) (N : Nat) {r a : Nat} (h : vRule1 ρ I r a) {m : Int32} (h0 : 0 ≤ m.toInt) (h1 : m.toInt < 8) : f_any_toldFor N ρ I J a m = some (I 96 (8 * r + tn m)) := by
  have hR := rule_isR h
  obtain ⟨a1, a2, a3, a4, a5, a6, a7, a8, a9, a10⟩ := h
  have tt := p_tnc m h0
  unfold f_any_toldFor
  rw [if_pos hR, a3]
  rcases kcl_six a6 with c | c | c | c | c | c
  · have z := a10 (by rw [c]; decide) (tn m) (by omega)
    simp [c, kcl, f_X6_toldFor, z]
  · have z := a10 (by rw [c]; decide) (tn m) (by omega)
    simp [c, kcl, f_X6_toldFor, z]
  · have z := a10 (by rw [c]; decide) (tn m) (by omega)
    simp [c, kcl, f_X6_toldFor, z]
  · have z := a10 (by rw [c]; decide) (tn m) (by omega)
    simp [c, kcl, f_X6_toldFor, z]
  · obtain ⟨z1, z2, z3, z4⟩ := a9 c
    have z := z4 (tn m) (by omega)
    have k9 : ρ.2.1 a = (0, 9) := by rw [a3, c]; rfl
    have x := p_ix (a := m) (n := 8) h0 h1
    have e : kcl (I 94 r) = 9 := by rw [c]; rfl
    simp only [e]
    simp only [f_X9_toldFor, Option.bind_some, p_b01, p_b11, fa_lt, fa_le, fa_eq, Int32.reduceToInt, scase_l, scase_r, ocase_no, ocase_so, bnd, reduceIte, Int.reduceEq, Int.reduceLT, Int.reduceLE, not_true_eq_false, not_false_eq_true]
    rw [if_neg (by decide), if_neg (by decide), if_neg (by decide), if_neg (by decide), if_neg (by omega), if_neg (by omega), if_pos k9, z1]
    simp only [Option.bind_some, z3]
    rw [if_pos trivial, if_pos (by omega), z]
  · have z := a10 (by rw [c]; decide) (tn m) (by omega)
    simp [c, kcl, f_X6_toldFor, z]
theorem op_ruleTold {ρ : Rh} {I : Nat → Nat → Int32} {J : Nat → Nat → Int64} (N : Nat) (h : Inv ρ I J) (r w : Int32) : ∃ v, f_X11_ruleTold N ρ I J r w = some v ∧ f_X12_ruleTold N ρ I J r w = some v := by
  obtain ⟨sh, hm, ht, hd, hp, hs, hr, hl, hf, hi, hw⟩ := id h
  obtain ⟨r1, r2, r3⟩ := id hr
  unfold bw at r2
  have ir := m_isRule N ρ I J r (by omega)
  by_cases hb : 0 ≤ r.toInt ∧ r.toInt < (I 89 9).toInt
  · obtain ⟨a, g1, g2⟩ := rule_in J N hr hb.1 hb.2
    have hR := rule_isR g2
    have tt := p_tnc r hb.1
    have x := p_ix (a := r) (n := 8) hb.1 (by show _ < (8 : Int); omega)
    have y4 := g2.2.2.2.1
    have y5 := g2.2.2.2.2.1
    by_cases w0 : w = 0
    · refine ⟨I 94 (tn r), ?_, ?_⟩
      · subst w0
        simp only [f_X11_ruleTold, g1, Option.bind_some, ocase_so]
        rw [if_neg (by decide), if_pos (by decide), if_pos trivial, if_pos hR, y4]
      · simp only [f_X12_ruleTold, ir, Option.bind_some, p_b01]
        rw [if_neg (by omega), if_pos w0, if_pos x]
    by_cases w1 : w = 1
    · refine ⟨I 95 (tn r), ?_, ?_⟩
      · subst w1
        simp only [f_X11_ruleTold, g1, Option.bind_some, ocase_so]
        rw [if_neg (by decide), if_pos (by decide), if_neg (by decide), if_pos trivial, if_pos hR, y5]
      · simp only [f_X12_ruleTold, ir, Option.bind_some, p_b01]
        rw [if_neg (by omega), if_neg w0, if_pos w1, if_pos x]
    have v0 : ¬ w.toInt = 0 := fun z => w0 (p_eq z)
    have v1 : ¬ w.toInt = 1 := fun z => w1 (p_eq z)
    by_cases hw2 : 2 ≤ w.toInt ∧ w.toInt < 10
    · have e2 : (w - 2).toInt = w.toInt - 2 := p_sub (b := 2) (by show _ ≤ _ - (2 : Int); omega) (by show _ - (2 : Int) < _; omega)
      have e3 : (8 * r).toInt = 8 * r.toInt := p_mul (a := 8) (by show _ ≤ (8 : Int) * _; omega) (by show (8 : Int) * _ < _; omega)
      have e4 : (8 * r + w).toInt = 8 * r.toInt + w.toInt := by rw [p_add (by omega) (by omega), e3]
      have e5 : (8 * r + w - 2).toInt = 8 * r.toInt + w.toInt - 2 := by
        have q : (2 : Int32).toInt = 2 := rfl
        rw [p_sub (by omega) (by omega), e4, q]
      have x2 := p_ix (a := 8 * r + w - 2) (n := 64) (by omega) (by show _ < (64 : Int); omega)
      have y := told_for J N g2 (m := w - 2) (by omega) (by omega)
      have t2 := p_tnc (w - 2) (by omega)
      have t3 := p_tnc (8 * r + w - 2) (by omega)
      refine ⟨I 96 (8 * tn r + tn (w - 2)), ?_, ?_⟩
      · simp only [f_X11_ruleTold, g1, Option.bind_some, ocase_so]
        rw [if_neg (by rw [fa_lt]; show ¬ _ < (0 : Int); omega), if_pos (by rw [fa_lt]; show _ < (10 : Int); omega), if_neg w0, if_neg w1, y]
        rfl
      · simp only [f_X12_ruleTold, ir, m_in, Option.bind_some, p_b01]
        rw [if_neg (by omega), if_neg w0, if_neg w1, if_neg (by show ¬ ¬ ((2 : Int) ≤ _ ∧ _ ≤ (9 : Int)); omega), if_pos x2]
        congr 2
        omega
    · refine ⟨-7, ?_, ?_⟩
      · simp only [f_X11_ruleTold, g1, Option.bind_some, ocase_so]
        by_cases hn : w.toInt < 0
        · rw [if_pos (by rw [fa_lt]; exact hn)]
        · rw [if_neg (by rw [fa_lt]; exact hn), if_neg (by rw [fa_lt]; show ¬ _ < (10 : Int); omega)]
      · simp only [f_X12_ruleTold, ir, m_in, Option.bind_some, p_b01]
        rw [if_neg (by omega), if_neg w0, if_neg w1, if_pos (by show ¬ ((2 : Int) ≤ _ ∧ _ ≤ (9 : Int)); omega)]
  · have g1 := rule_out J N hr hb
    refine ⟨-5, ?_, ?_⟩
    · simp only [f_X11_ruleTold, g1, Option.bind_some, ocase_no]
    · simp only [f_X12_ruleTold, ir, Option.bind_some, p_b01]
      rw [if_pos hb]
theorem kind_key (N : Nat) {ρ : Rh} {I : Nat → Nat → Int32} {J : Nat → Nat → Int64} {a : Nat} {q k : Int32} (hq : q = 0 ∨ q = 1 ∨ q = 2 ∨ q = 3 ∨ q = 4 ∨ q = 5) (ck : k = 0 ∨ k = 1 ∨ k = 2 ∨ k = 3 ∨ k = 4 ∨ k = 5 ∨ k = 6) (hk : ρ.2.1 a = (0, kcl q)) : f_X11_isOfKind N ρ I J a k = some (if k = 0 ∨ q = k ∨ (k = 1 ∧ q = 5) ∨ (k = 2 ∧ q = 3) then 1 else 0) ∧ f_X12_isUnder N ρ I J q k = some (if k = 0 ∨ q = k ∨ (k = 1 ∧ q = 5) ∨ (k = 2 ∧ q = 3) then 1 else 0) := by
  unfold f_X11_isOfKind f_X12_isUnder
  rw [hk]
  rcases hq with c | c | c | c | c | c <;> subst c <;> rcases ck with c | c | c | c | c | c | c <;> subst c <;> exact ⟨by decide, by decide⟩
theorem op_taken {ρ : Rh} {I : Nat → Nat → Int32} {J : Nat → Nat → Int64} (N : Nat) (h : Inv ρ I J) (i k : Int32) : ∃ v, f_X11_taken N ρ I J i k = some v ∧ f_X12_taken N ρ I J i k = some v := by
  obtain ⟨sh, hm, ht, hd, hp, hs, hr, hl, hf, hi, hw⟩ := id h
  obtain ⟨m1, m2, m3, m4, m5⟩ := id hm
  obtain ⟨r1, r2, r3⟩ := id hr
  unfold bw at m2 r2
  by_cases hk : 0 ≤ k.toInt ∧ k.toInt ≤ 6
  · by_cases hi : 0 ≤ i.toInt ∧ i.toInt < 16
    · by_cases h8 : 8 ≤ i.toInt
      · have e : (i - 8).toInt = i.toInt - 8 := p_sub (b := 8) (by show _ ≤ _ - (8 : Int); omega) (by show _ - (8 : Int) < _; omega)
        by_cases hb : i.toInt - 8 < (I 89 9).toInt
        · obtain ⟨a, g1, g2⟩ := rule_in J N hr (r := i - 8) (by omega) (by omega)
          have hR := rule_isR g2
          have tt := p_tnc (i - 8) (by omega)
          have x := p_ix (a := i - 8) (n := 8) (by omega) (by show _ < (8 : Int); omega)
          have a3 := g2.2.2.1
          have a6 := kcl_six g2.2.2.2.2.2.1
          have ck : k = 0 ∨ k = 1 ∨ k = 2 ∨ k = 3 ∨ k = 4 ∨ k = 5 ∨ k = 6 := by
            by_cases h6 : k.toInt = 6
            · exact Or.inr (Or.inr (Or.inr (Or.inr (Or.inr (Or.inr (p_eq h6))))))
            · rcases kcl_six (k := k) ⟨by omega, by omega⟩ with c | c | c | c | c | c <;> simp [c]
          have L : f_X11_taken N ρ I J i k = (f_X11_isOfKind N ρ I J a k).bind fun v5 => (if v5 = 0 then some (-13) else some (i - 8)) := by
            simp only [f_X11_taken, g1, Option.bind_some, ocase_so]
            rw [if_neg (by rw [fa_lt]; show ¬ _ < (0 : Int); omega), if_pos (by rw [fa_le]; show _ ≤ (6 : Int); omega), if_neg (by rw [fa_lt]; show ¬ _ < (0 : Int); omega), if_pos (by rw [fa_lt]; show _ < (16 : Int); omega), if_pos (by rw [fa_le]; show (8 : Int) ≤ _; omega)]
          have R : f_X12_taken N ρ I J i k = (if 6 ≤ k then some (-13) else (f_X12_isUnder N ρ I J (I 94 (tn (i - 8))) k).bind fun v5 => (if v5 = 0 then some (-13) else some (i - 8))) := by
            simp only [f_X12_taken, m_in, Option.bind_some, p_b01]
            rw [if_neg (by show ¬ ¬ ((0 : Int) ≤ _ ∧ _ ≤ (6 : Int)); omega), if_neg (by show ¬ ¬ ((0 : Int) ≤ _ ∧ _ ≤ (15 : Int)); omega), if_pos (by rw [fa_le]; show (8 : Int) ≤ _; omega), if_pos (by rw [fa_lt]; omega), if_pos x]
          rw [L, R]
          have hR' : isR (0, kcl (I 94 (tn (i - 8)))) := by rw [← a3]; exact hR
          have key := fun q hq hk => kind_key N (I := I) (J := J) (ρ := ρ) (a := a) (q := q) (k := k) hq ck hk
          obtain ⟨k1, k2⟩ := key _ a6 a3
          rw [k1, k2]
          simp only [Option.bind_some, p_b01]
          by_cases h6 : 6 ≤ k
          · have h6' := h6
            rw [fa_le] at h6'
            have h6' : (6 : Int) ≤ k.toInt := h6'
            have hk6 : k = 6 := p_eq (by show _ = (6 : Int); omega)
            refine ⟨-13, ?_, if_pos h6⟩
            subst hk6
            rw [if_pos]
            rcases a6 with c | c | c | c | c | c <;> rw [c] <;> decide
          · rw [if_neg h6]
            split <;> exact ⟨_, rfl, rfl⟩
        · have g1 := rule_out J N hr (r := i - 8) (by omega)
          refine ⟨-11, ?_, ?_⟩
          · simp only [f_X11_taken, g1, Option.bind_some, ocase_no]
            rw [if_neg (by rw [fa_lt]; show ¬ _ < (0 : Int); omega), if_pos (by rw [fa_le]; show _ ≤ (6 : Int); omega), if_neg (by rw [fa_lt]; show ¬ _ < (0 : Int); omega), if_pos (by rw [fa_lt]; show _ < (16 : Int); omega), if_pos (by rw [fa_le]; show (8 : Int) ≤ _; omega)]
          · simp only [f_X12_taken, m_in, Option.bind_some, p_b01]
            rw [if_neg (by show ¬ ¬ ((0 : Int) ≤ _ ∧ _ ≤ (6 : Int)); omega), if_neg (by show ¬ ¬ ((0 : Int) ≤ _ ∧ _ ≤ (15 : Int)); omega), if_pos (by rw [fa_le]; show (8 : Int) ≤ _; omega), if_neg (by rw [fa_lt]; omega)]
      · have x := p_ix (a := i) (n := 8) (by omega) (by show _ < (8 : Int); omega)
        have tt := p_tnc i (by omega)
        have L : f_X11_taken N ρ I J i k = if i.toInt < (I 89 0).toInt then (if k = 6 then some (I 43 (tn i)) else some (-13)) else some (-11) := by
          simp only [f_X11_taken, c_isMan, m1, Option.bind_some, p_b01]
          rw [if_neg (by rw [fa_lt]; show ¬ _ < (0 : Int); omega), if_pos (by rw [fa_le]; show _ ≤ (6 : Int); omega), if_neg (by rw [fa_lt]; show ¬ _ < (0 : Int); omega), if_pos (by rw [fa_lt]; show _ < (16 : Int); omega), if_neg (by rw [fa_le]; show ¬ (8 : Int) ≤ _; omega), if_pos x]
          by_cases hq : i.toInt < (I 89 0).toInt
          · rw [if_neg (by omega), if_pos hq]
          · rw [if_pos (by omega), if_neg hq]
        have R : f_X12_taken N ρ I J i k = if i.toInt < (I 89 0).toInt then (if k = 6 then some (I 90 (tn i)) else some (-13)) else some (-11) := by
          simp only [f_X12_taken, m_in, Option.bind_some, p_b01]
          rw [if_neg (by show ¬ ¬ ((0 : Int) ≤ _ ∧ _ ≤ (6 : Int)); omega), if_neg (by show ¬ ¬ ((0 : Int) ≤ _ ∧ _ ≤ (15 : Int)); omega), if_neg (by rw [fa_le]; show ¬ (8 : Int) ≤ _; omega), if_pos x]
          simp only [fa_lt]
        rw [L, R, (m3 (tn i) (by omega)).1]
        repeat' (first | exact ⟨_, rfl, rfl⟩ | split)
    · refine ⟨-12, ?_, ?_⟩
      · simp only [f_X11_taken]
        rw [if_neg (by rw [fa_lt]; show ¬ _ < (0 : Int); omega), if_pos (by rw [fa_le]; show _ ≤ (6 : Int); omega)]
        by_cases hn : i.toInt < 0
        · rw [if_pos (by rw [fa_lt]; exact hn)]
        · rw [if_neg (by rw [fa_lt]; exact hn), if_neg (by rw [fa_lt]; show ¬ _ < (16 : Int); omega)]
      · simp only [f_X12_taken, m_in, Option.bind_some, p_b01]
        rw [if_neg (by show ¬ ¬ ((0 : Int) ≤ _ ∧ _ ≤ (6 : Int)); omega), if_pos (by show ¬ ((0 : Int) ≤ _ ∧ _ ≤ (15 : Int)); omega)]
  · refine ⟨-2, ?_, ?_⟩
    · simp only [f_X11_taken]
      by_cases hn : k.toInt < 0
      · rw [if_pos (by rw [fa_lt]; exact hn)]
      · rw [if_neg (by rw [fa_lt]; exact hn), if_neg (by rw [fa_le]; show ¬ _ ≤ (6 : Int); omega)]
    · simp only [f_X12_taken, m_in, Option.bind_some, p_b01]
      rw [if_pos (by show ¬ ((0 : Int) ≤ _ ∧ _ ≤ (6 : Int)); omega)]
