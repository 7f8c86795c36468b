/-! ===== the pure layer: sheet, cell ===== -/
theorem sheet_k {ρ : Rh} (h : Sh ρ) {s : Nat} (hs : s < 4) : ρ.2.1 (81 + 2 * s) = (0, 7) ∧ ρ.1 (81 + 2 * s) 2 = some (82 + 2 * s) ∧ ρ.2.1 (82 + 2 * s) = (1, 40) := by
  have c : s = 0 ∨ s = 1 ∨ s = 2 ∨ s = 3 := by omega
  rcases c with c | c | c | c <;> subst c
  · exact ⟨h.k81, h.r81_2, h.k82⟩
  · exact ⟨h.k83, h.r83_2, h.k84⟩
  · exact ⟨h.k85, h.r85_2, h.k86⟩
  · exact ⟨h.k87, h.r87_2, h.k88⟩
theorem sheet_in {ρ : Rh} {I : Nat → Nat → Int32} {J : Nat → Nat → Int64} (N : Nat) {s : Int32} (h0 : 0 ≤ s.toInt) (h1 : s.toInt < 4) : f_X11_sheetAt N ρ I J s = some (some (81 + 2 * tn s)) := by
  unfold f_X11_sheetAt
  rw [if_neg (by rw [fa_lt]; show ¬ _ < (0 : Int); omega), if_neg (by rw [fa_le]; show ¬ (4 : Int) ≤ _; omega), if_pos (p_ix h0 (by show _ < (4 : Int); omega))]
theorem sheet_out {ρ : Rh} {I : Nat → Nat → Int32} {J : Nat → Nat → Int64} (N : Nat) {s : Int32} (h : ¬ (0 ≤ s.toInt ∧ s.toInt < 4)) : f_X11_sheetAt N ρ I J s = some none := by
  unfold f_X11_sheetAt
  by_cases h0 : s.toInt < 0
  · rw [if_pos (by rw [fa_lt]; exact h0)]
  · rw [if_neg (by rw [fa_lt]; exact h0), if_pos (by rw [fa_le]; show (4 : Int) ≤ _; omega)]
theorem c_miss {ρ : Rh} (sh : Sh ρ) {I : Nat → Nat → Int32} {J : Nat → Nat → Int64} (N : Nat) (hs : vSheet I) {s : Nat} (h : s < 4) : f_X7_isMissing N ρ I J (81 + 2 * s) = some (if (I 107 s).toInt = -1 then 1 else 0) := by
  obtain ⟨q1, q2, q3, q4, q5, q6⟩ := hs s h
  unfold f_X7_isMissing
  unfold bw at q3
  rw [(sheet_k sh h).1, if_pos rfl, q1]
  by_cases hm : (I 107 s).toInt = -1
  · rw [if_pos hm, if_neg (by rw [fa_le]; show ¬ (0 : Int) ≤ _; omega)]
  · rw [if_neg hm, if_pos (by rw [fa_le]; show (0 : Int) ≤ _; omega)]
theorem cell_ix {s i : Int32} (h0 : 0 ≤ s.toInt) (h1 : s.toInt < 4) (h2 : 0 ≤ i.toInt) (h3 : i.toInt < 40) : ¬ (40 * s + i < 0 ∨ 160 ≤ tn (40 * s + i)) ∧ tn (40 * s + i) = 40 * tn s + tn i := by
  have e1 : (40 * s).toInt = 40 * s.toInt := p_mul (a := 40) (by show _ ≤ (40 : Int) * _; omega) (by show (40 : Int) * _ < _; omega)
  have e2 : (40 * s + i).toInt = 40 * s.toInt + i.toInt := by rw [p_add (by omega) (by omega), e1]
  have t1 := p_tnc s h0
  have t2 := p_tnc i h2
  have t3 := p_tnc (40 * s + i) (by omega)
  exact ⟨p_ix (by omega) (by show _ < (160 : Int); omega), by omega⟩
theorem m_clear {N : Nat} {J : Nat → Nat → Int64} {ρ : Rh} {s : Int32} (h0 : 0 ≤ s.toInt) (h1 : s.toInt < 4) : ∀ (d k fuel : Nat) (I : Nat → Nat → Int32), k + d = 40 → d < fuel → f_X12_sheet_70 N J ρ s fuel I (Int32.ofNat k) = some (fun b j => if b = 109 ∧ 40 * tn s + k ≤ j ∧ j < 40 * tn s + 40 then 0 else I b j)
  | 0, k, fuel + 1, I, z1, z2 => by
    rw [f_X12_sheet_70.eq_2, if_pos (by rw [fa_le, p_nI (by omega)]; show (40 : Int) ≤ _; omega)]
    congr 1; funext b j
    rw [if_neg (by omega)]
  | d + 1, k, fuel + 1, I, z1, z2 => by
    have e := p_nI (n := k) (by omega)
    obtain ⟨x1, x2⟩ := cell_ix h0 h1 (i := Int32.ofNat k) (by omega) (by omega)
    rw [p_tnI (by omega)] at x2
    rw [f_X12_sheet_70.eq_2, if_neg (by rw [fa_le, e]; show ¬ (40 : Int) ≤ _; omega), if_pos x1, x2, p_succ (by omega), m_clear h0 h1 d (k + 1) fuel _ (by omega) (by omega)]
    congr 1; funext b j
    rw [u2_ap]
    by_cases hb : b = 109
    · by_cases hj : j = 40 * tn s + k
      · subst hb; subst hj
        rw [if_neg (by omega), if_pos rfl, if_pos rfl, if_pos (by omega)]
      · by_cases hq : 40 * tn s + k ≤ j ∧ j < 40 * tn s + 40
        · rw [if_pos (by omega), if_pos (by omega)]
        · rw [if_neg (by omega), if_pos hb, if_neg hj, if_neg (by omega)]
    · rw [if_neg (by omega), if_neg hb, if_neg (by omega)]
theorem sheet_two {ρ : Rh} {I : Nat → Nat → Int32} {J : Nat → Nat → Int64} (N : Nat) (hN : 200 ≤ N) (h : Inv ρ I J) {s w n : Int32} (h0 : 0 ≤ s.toInt) (h1 : s.toInt < 4) (hw : -1 ≤ w.toInt ∧ w.toInt ≤ 2) (hn : 0 ≤ n.toInt ∧ n.toInt ≤ 40) (hz : w.toInt = -1 → n.toInt = 0) : ∃ I1 I2, f_X7_become N ρ I J (81 + 2 * tn s) w n = some I1 ∧ f_X12_sheet_70 N J ρ s N (u2 (u2 I1 107 (tn s) w) 108 (tn s) n) 0 = some I2 ∧ Inv ρ I2 J := by
  obtain ⟨sh, hm, ht, hd, hp, hs, hr, hl, hf, hi, hwd⟩ := id h
  have ts := p_tnc s h0
  obtain ⟨k1, k2, k3⟩ := sheet_k sh (s := tn s) (by omega)
  obtain ⟨I1, e1, C⟩ : ∃ I1, f_X7_become N ρ I J (81 + 2 * tn s) w n = some I1 ∧ I1 = fun b j => if b = 82 + 2 * tn s ∧ j < 40 then (0 : Int32) else (u2 (u2 I (81 + 2 * tn s) 0 w) (81 + 2 * tn s) 1 n) b j := by
    refine ⟨_, ?_, rfl⟩
    unfold f_X7_become
    rw [if_pos k1, k2]
    simp only [Option.bind_some]
    rw [fill_all k3 (by omega) (by omega)]
    rfl
  refine ⟨I1, _, e1, m_clear h0 h1 40 0 N _ (by omega) (by omega), ?_⟩
  have R : ∀ b j : Nat, ¬ (81 ≤ b ∧ b ≤ 88) → ¬ (b = 107 ∨ b = 108 ∨ b = 109) → (if b = 109 ∧ 40 * tn s + 0 ≤ j ∧ j < 40 * tn s + 40 then (0 : Int32) else (u2 (u2 I1 107 (tn s) w) 108 (tn s) n) b j) = I b j := by
    intro b j z1 z2
    rw [if_neg (by omega), u2_fr (by omega), u2_fr (by omega), C]
    show (if b = 82 + 2 * tn s ∧ j < 40 then (0 : Int32) else _) = _
    rw [if_neg (by omega), u2_fr (by omega), u2_fr (by omega)]
  refine ⟨sh, fr_vMen (fun a k hh => R a k (by omega) (by omega)) hm, fr_vTold (fun a k hh => R a k (by omega) (by omega)) ht, fr_vDays (fun a k hh => R a k (by omega) (by omega)) hd, fr_vTape (fun a k hh => R a k (by omega) (by omega)) hp, ?_, fr_vRules (fun a k hh => R a k (by omega) (by omega)) hr, fr_vLaws (fun a k hh => R a k (by omega) (by omega)) hl, fr_vForce (fun a k hh => R a k (by omega) (by omega)) hf, fr_vImg (fun a k hh => R a k (by omega) (by omega)) hi, hwd⟩
  intro t ht
  obtain ⟨q1, q2, q3, q4, q5, q6⟩ := hs t ht
  have X : ∀ b j : Nat, I1 b j = if b = 82 + 2 * tn s ∧ j < 40 then (0 : Int32) else (u2 (u2 I (81 + 2 * tn s) 0 w) (81 + 2 * tn s) 1 n) b j := fun b j => by rw [C]
  by_cases hts : t = tn s
  · subst hts
    have f1 : (if (81 + 2 * tn s) = 109 ∧ 40 * tn s + 0 ≤ 0 ∧ 0 < 40 * tn s + 40 then (0 : Int32) else (u2 (u2 I1 107 (tn s) w) 108 (tn s) n) (81 + 2 * tn s) 0) = w := by
      rw [if_neg (by omega), u2_fr (by omega), u2_fr (by omega), X, if_neg (by omega), u2_fr (by omega), u2_at]
    have f2 : (if (81 + 2 * tn s) = 109 ∧ 40 * tn s + 0 ≤ 1 ∧ 1 < 40 * tn s + 40 then (0 : Int32) else (u2 (u2 I1 107 (tn s) w) 108 (tn s) n) (81 + 2 * tn s) 1) = n := by
      rw [if_neg (by omega), u2_fr (by omega), u2_fr (by omega), X, if_neg (by omega), u2_at]
    have f3 : (if 107 = 109 ∧ 40 * tn s + 0 ≤ tn s ∧ tn s < 40 * tn s + 40 then (0 : Int32) else (u2 (u2 I1 107 (tn s) w) 108 (tn s) n) 107 (tn s)) = w := by
      rw [if_neg (by omega), u2_fr (by omega), u2_at]
    have f4 : (if 108 = 109 ∧ 40 * tn s + 0 ≤ tn s ∧ tn s < 40 * tn s + 40 then (0 : Int32) else (u2 (u2 I1 107 (tn s) w) 108 (tn s) n) 108 (tn s)) = n := by
      rw [if_neg (by omega), u2_at]
    show _ = _ ∧ _ = _ ∧ _
    refine ⟨f1.trans f3.symm, f2.trans f4.symm, ?_, ?_, ?_, ?_⟩
    · show bw (if 107 = 109 ∧ 40 * tn s + 0 ≤ tn s ∧ tn s < 40 * tn s + 40 then (0 : Int32) else (u2 (u2 I1 107 (tn s) w) 108 (tn s) n) 107 (tn s)) (-1) 2
      rw [f3]; exact hw
    · show bw (if 108 = 109 ∧ 40 * tn s + 0 ≤ tn s ∧ tn s < 40 * tn s + 40 then (0 : Int32) else (u2 (u2 I1 107 (tn s) w) 108 (tn s) n) 108 (tn s)) 0 40
      rw [f4]; exact hn
    · show (if 107 = 109 ∧ 40 * tn s + 0 ≤ tn s ∧ tn s < 40 * tn s + 40 then (0 : Int32) else (u2 (u2 I1 107 (tn s) w) 108 (tn s) n) 107 (tn s)).toInt = -1 → (if 108 = 109 ∧ 40 * tn s + 0 ≤ tn s ∧ tn s < 40 * tn s + 40 then (0 : Int32) else (u2 (u2 I1 107 (tn s) w) 108 (tn s) n) 108 (tn s)).toInt = 0
      rw [f3, f4]; exact hz
    · intro k hk
      show (if (82 + 2 * tn s) = 109 ∧ 40 * tn s + 0 ≤ k ∧ k < 40 * tn s + 40 then (0 : Int32) else (u2 (u2 I1 107 (tn s) w) 108 (tn s) n) (82 + 2 * tn s) k) = (if 109 = 109 ∧ 40 * tn s + 0 ≤ 40 * tn s + k ∧ 40 * tn s + k < 40 * tn s + 40 then (0 : Int32) else (u2 (u2 I1 107 (tn s) w) 108 (tn s) n) 109 (40 * tn s + k))
      rw [if_neg (by omega), if_pos (by omega), u2_fr (by omega), u2_fr (by omega), X, if_pos (by omega)]
  · have A : ∀ b j : Nat, (b = 81 + 2 * t ∨ b = 82 + 2 * t ∨ (b = 107 ∧ j = t) ∨ (b = 108 ∧ j = t) ∨ (b = 109 ∧ 40 * t ≤ j ∧ j < 40 * t + 40)) → (if b = 109 ∧ 40 * tn s + 0 ≤ j ∧ j < 40 * tn s + 40 then (0 : Int32) else (u2 (u2 I1 107 (tn s) w) 108 (tn s) n) b j) = I b j := by
      intro b j z
      rw [if_neg (by omega), u2_fr (by omega), u2_fr (by omega), X, if_neg (by omega), u2_fr (by omega), u2_fr (by omega)]
    have f1 := A (81 + 2 * t) 0 (by omega)
    have f2 := A (81 + 2 * t) 1 (by omega)
    have f3 := A 107 t (by omega)
    have f4 := A 108 t (by omega)
    refine ⟨f1.trans (q1.trans f3.symm), f2.trans (q2.trans f4.symm), ?_, ?_, ?_, fun k hk => (A (82 + 2 * t) k (by omega)).trans ((q6 k hk).trans (A 109 (40 * t + k) (by omega)).symm)⟩
    · exact (congrArg (fun z => bw z (-1) 2) f3).mpr q3
    · exact (congrArg (fun z => bw z 0 40) f4).mpr q4
    · exact fun z => (congrArg Int32.toInt f4).trans (q5 ((congrArg Int32.toInt f3).symm.trans z))
theorem op_sheet {ρ : Rh} {I : Nat → Nat → Int32} {J : Nat → Nat → Int64} (N : Nat) (h : Inv ρ I J) (hN : 200 ≤ N) (s w n : Int32) : ∃ I1 r I2, f_X11_sheet N ρ I J s w n = some (I1, r) ∧ f_X12_sheet N ρ I1 J s w n = some (I2, r) ∧ Inv ρ I2 J := by
  have sh := h.1
  by_cases hb : 0 ≤ s.toInt ∧ s.toInt < 4
  · have g := sheet_in (ρ := ρ) (I := I) (J := J) N hb.1 hb.2
    have ts := p_tnc s hb.1
    have k1 := (sheet_k sh (s := tn s) (by omega)).1
    have x := p_ix (a := s) (n := 4) hb.1 (by show _ < (4 : Int); omega)
    by_cases hw : -1 ≤ w.toInt ∧ w.toInt ≤ 2
    · by_cases hm : w.toInt = -1
      · obtain ⟨I1, I2, e1, e2, e3⟩ := sheet_two N hN h (n := 0) hb.1 hb.2 hw (by decide) (fun _ => rfl)
        have hm' : w = -1 := p_eq hm
        refine ⟨I1, 1, I2, ?_, ?_, e3⟩
        · unfold f_X11_sheet
          rw [g]
          simp only [Option.bind_some, ocase_so]
          rw [if_neg (by rw [fa_lt]; show ¬ _ < (-1 : Int); omega), if_pos (by rw [fa_le]; show _ ≤ (2 : Int); omega), if_pos hm', if_pos k1, e1]
          rfl
        · unfold f_X12_sheet
          simp only [m_in, Option.bind_some, p_b01]
          rw [if_neg (by show ¬ ¬ ((0 : Int) ≤ _ ∧ _ ≤ (3 : Int)); omega), if_neg (by show ¬ ¬ ((-1 : Int) ≤ _ ∧ _ ≤ (2 : Int)); omega)]
          simp only [if_pos hm', Option.bind_some, scase_r, if_pos x, e2]
      · have hm' : ¬ w = -1 := fun z => hm (by rw [z]; rfl)
        by_cases hn : n.toInt ≤ 40
        · by_cases hn0 : 0 ≤ n.toInt
          · obtain ⟨I1, I2, e1, e2, e3⟩ := sheet_two N hN h (n := n) hb.1 hb.2 hw ⟨hn0, hn⟩ (fun z => absurd z hm)
            refine ⟨I1, 1, I2, ?_, ?_, e3⟩
            · unfold f_X11_sheet
              rw [g]
              simp only [Option.bind_some, ocase_so]
              rw [if_neg (by rw [fa_lt]; show ¬ _ < (-1 : Int); omega), if_pos (by rw [fa_le]; show _ ≤ (2 : Int); omega), if_neg hm', if_pos (by rw [fa_le]; exact hn), if_pos (by rw [fa_le]; exact hn0), if_pos k1, e1]
              rfl
            · unfold f_X12_sheet
              have a1 : n ≤ 40 := by rw [fa_le]; exact hn
              have a2 : 0 ≤ n := by rw [fa_le]; exact hn0
              simp only [m_in, Option.bind_some, p_b01]
              rw [if_neg (by show ¬ ¬ ((0 : Int) ≤ _ ∧ _ ≤ (3 : Int)); omega), if_neg (by show ¬ ¬ ((-1 : Int) ≤ _ ∧ _ ≤ (2 : Int)); omega)]
              simp only [if_neg hm', if_pos a1, if_pos a2, Option.bind_some, scase_r, if_pos x, e2]
          · refine ⟨I, -14, I, ?_, ?_, h⟩
            · unfold f_X11_sheet
              rw [g]
              simp only [Option.bind_some, ocase_so]
              rw [if_neg (by rw [fa_lt]; show ¬ _ < (-1 : Int); omega), if_pos (by rw [fa_le]; show _ ≤ (2 : Int); omega), if_neg hm', if_pos (by rw [fa_le]; exact hn), if_neg (by rw [fa_le]; exact hn0)]
            · unfold f_X12_sheet
              have a1 : n ≤ 40 := by rw [fa_le]; exact hn
              have a2 : ¬ 0 ≤ n := by rw [fa_le]; exact hn0
              simp only [m_in, Option.bind_some, p_b01]
              rw [if_neg (by show ¬ ¬ ((0 : Int) ≤ _ ∧ _ ≤ (3 : Int)); omega), if_neg (by show ¬ ¬ ((-1 : Int) ≤ _ ∧ _ ≤ (2 : Int)); omega)]
              simp only [if_neg hm', if_pos a1, if_neg a2, Option.bind_some, scase_r, scase_l]
        · refine ⟨I, -2, I, ?_, ?_, h⟩
          · unfold f_X11_sheet
            rw [g]
            simp only [Option.bind_some, ocase_so]
            rw [if_neg (by rw [fa_lt]; show ¬ _ < (-1 : Int); omega), if_pos (by rw [fa_le]; show _ ≤ (2 : Int); omega), if_neg hm', if_neg (by rw [fa_le]; exact hn)]
          · unfold f_X12_sheet
            have a1 : ¬ n ≤ 40 := by rw [fa_le]; exact hn
            simp only [m_in, Option.bind_some, p_b01]
            rw [if_neg (by show ¬ ¬ ((0 : Int) ≤ _ ∧ _ ≤ (3 : Int)); omega), if_neg (by show ¬ ¬ ((-1 : Int) ≤ _ ∧ _ ≤ (2 : Int)); omega)]
            simp only [if_neg hm', if_neg a1, Option.bind_some, scase_l]
    · refine ⟨I, -2, I, ?_, ?_, h⟩
      · unfold f_X11_sheet
        rw [g]
        simp only [Option.bind_some, ocase_so]
        by_cases hn : w.toInt < -1
        · rw [if_pos (by rw [fa_lt]; exact hn)]
        · rw [if_neg (by rw [fa_lt]; exact hn), if_neg (by rw [fa_le]; show ¬ _ ≤ (2 : Int); omega)]
      · unfold f_X12_sheet
        simp only [m_in, Option.bind_some, p_b01]
        rw [if_neg (by show ¬ ¬ ((0 : Int) ≤ _ ∧ _ ≤ (3 : Int)); omega), if_pos (by show ¬ ((-1 : Int) ≤ _ ∧ _ ≤ (2 : Int)); omega)]
  · have g := sheet_out (ρ := ρ) (I := I) (J := J) N hb
    refine ⟨I, -2, I, ?_, ?_, h⟩
    · unfold f_X11_sheet
      rw [g]
      simp only [Option.bind_some, ocase_no]
    · unfold f_X12_sheet
      simp only [m_in, Option.bind_some, p_b01]
      rw [if_pos (by show ¬ ((0 : Int) ≤ _ ∧ _ ≤ (3 : Int)); omega)]
theorem op_cell {ρ : Rh} {I : Nat → Nat → Int32} {J : Nat → Nat → Int64} (N : Nat) (h : Inv ρ I J) (s i v : Int32) : ∃ I1 r I2, f_X11_cell N ρ I J s i v = some (I1, r) ∧ f_X12_cell N ρ I1 J s i v = some (I2, r) ∧ Inv ρ I2 J := by
  obtain ⟨sh, hm, ht, hd, hp, hs, hr, hl, hf, hi, hw⟩ := id h
  have hm_ := hm
  have hi_ := hi
  by_cases hb : 0 ≤ s.toInt ∧ s.toInt < 4
  · have g := sheet_in (ρ := ρ) (I := I) (J := J) N hb.1 hb.2
    have ts := p_tnc s hb.1
    have h4 : tn s < 4 := by omega
    obtain ⟨k1, k2, k3⟩ := sheet_k sh h4
    have x := p_ix (a := s) (n := 4) hb.1 (by show _ < (4 : Int); omega)
    have ms := c_miss sh (J := J) N hs h4
    obtain ⟨q1, q2, q3, q4, q5, q6⟩ := hs (tn s) h4
    unfold bw at q3 q4
    have e : (I 108 (tn s) - 1).toInt = (I 108 (tn s)).toInt - 1 := p_sub (b := 1) (by show _ ≤ _ - (1 : Int); omega) (by show _ - (1 : Int) < _; omega)
    by_cases hm : (I 107 (tn s)).toInt = -1
    · have hm' : I 107 (tn s) = -1 := p_eq hm
      refine ⟨I, -11, I, ?_, ?_, h⟩
      · unfold f_X11_cell
        rw [g]
        simp only [Option.bind_some, ocase_so]
        rw [if_pos k1, ms]
        simp only [Option.bind_some, p_b01]
        rw [if_neg (by omega)]
      · unfold f_X12_cell
        simp only [m_in, Option.bind_some, p_b01]
        rw [if_neg (by show ¬ ¬ ((0 : Int) ≤ _ ∧ _ ≤ (3 : Int)); omega), if_pos x, if_pos hm']
    · have hm' : ¬ I 107 (tn s) = -1 := fun z => hm (by rw [z]; rfl)
      by_cases hi : 0 ≤ i.toInt ∧ i.toInt < (I 108 (tn s)).toInt
      · have ti := p_tnc i hi.1
        obtain ⟨x1, x2⟩ := cell_ix hb.1 hb.2 hi.1 (by omega)
        have xi := p_ix (a := i) (n := 40) hi.1 (by show _ < (40 : Int); omega)
        obtain ⟨cv, hcv⟩ : ∃ cv, cv = (if I 107 (tn s) = 0 then v.toInt8.toInt32 else if I 107 (tn s) = 1 then v.toInt16.toInt32 else v) := ⟨_, rfl⟩
        have hc : f_X7_cut N ρ I J (81 + 2 * tn s) v = some cv := by
          unfold f_X7_cut
          rw [if_pos k1, q1, hcv]
          by_cases c0 : I 107 (tn s) = 0
          · rw [if_pos c0, if_pos c0]
          · by_cases c1 : I 107 (tn s) = 1
            · rw [if_neg c0, if_pos c1, if_neg c0, if_pos c1]
            · rw [if_neg c0, if_neg c1, if_neg c0, if_neg c1]
        have F : ∀ b j, ¬ b = 82 + 2 * tn s → (u2 I (82 + 2 * tn s) (tn i) cv) b j = I b j := fun b j z => u2_fr (by omega)
        refine ⟨u2 I (82 + 2 * tn s) (tn i) cv, 1, u2 (u2 I (82 + 2 * tn s) (tn i) cv) 109 (40 * tn s + tn i) cv, ?_, ?_, ?_⟩
        · unfold f_X11_cell
          rw [g]
          simp only [Option.bind_some, ocase_so]
          rw [if_pos k1, ms]
          simp only [Option.bind_some, p_b01]
          rw [if_pos hm, if_neg (by rw [fa_lt]; show ¬ _ < (0 : Int); omega), if_pos (by rw [fa_lt, q2]; omega), k2, hc]
          simp only [Option.bind_some, k3]
          rw [if_pos trivial, if_pos xi]
        · unfold f_X12_cell
          have y7 : (u2 I (82 + 2 * tn s) (tn i) cv) 107 (tn s) = I 107 (tn s) := F _ _ (by omega)
          have y8 : (u2 I (82 + 2 * tn s) (tn i) cv) 108 (tn s) = I 108 (tn s) := F _ _ (by omega)
          simp only [m_in, Option.bind_some, p_b01, y7, y8, e]
          rw [if_neg (by show ¬ ¬ ((0 : Int) ≤ _ ∧ _ ≤ (3 : Int)); omega), if_pos x, if_neg hm', if_pos x, if_neg (by show ¬ ¬ ((0 : Int) ≤ _ ∧ _ ≤ _); omega), if_pos x]
          have hj : (if I 107 (tn s) = 0 then some (v.toInt8.toInt32) else (if ¬ (s < 0 ∨ 4 ≤ tn s) then (if I 107 (tn s) = 1 then some (v.toInt16.toInt32) else some v) else none)) = some cv := by
            rw [hcv]
            by_cases c0 : I 107 (tn s) = 0
            · rw [if_pos c0, if_pos c0]
            · by_cases c1 : I 107 (tn s) = 1
              · rw [if_neg c0, if_pos x, if_pos c1, if_neg c0, if_pos c1]
              · rw [if_neg c0, if_pos x, if_neg c1, if_neg c0, if_neg c1]
          rw [hj]
          simp only [Option.bind_some]
          rw [if_pos x1, x2]
        · refine ⟨sh, fr_vMen (fun a k hh => (u2_fr (by omega)).trans (u2_fr (by omega))) hm_, fr_vTold (fun a k hh => (u2_fr (by omega)).trans (u2_fr (by omega))) ht, fr_vDays (fun a k hh => (u2_fr (by omega)).trans (u2_fr (by omega))) hd, fr_vTape (fun a k hh => (u2_fr (by omega)).trans (u2_fr (by omega))) hp, ?_, fr_vRules (fun a k hh => (u2_fr (by omega)).trans (u2_fr (by omega))) hr, fr_vLaws (fun a k hh => (u2_fr (by omega)).trans (u2_fr (by omega))) hl, fr_vForce (fun a k hh => (u2_fr (by omega)).trans (u2_fr (by omega))) hf, fr_vImg (fun a k hh => (u2_fr (by omega)).trans (u2_fr (by omega))) hi_, hw⟩
          intro t ht
          obtain ⟨q1, q2, q3, q4, q5, q6⟩ := hs t ht
          obtain ⟨I2, hI2⟩ : ∃ I2, I2 = u2 (u2 I (82 + 2 * tn s) (tn i) cv) 109 (40 * tn s + tn i) cv := ⟨_, rfl⟩
          rw [← hI2]
          have A : ∀ b j : Nat, ¬ (b = 82 + 2 * tn s ∧ j = tn i) → ¬ (b = 109 ∧ j = 40 * tn s + tn i) → I2 b j = I b j := fun b j z1 z2 => by rw [hI2]; exact (u2_fr (by omega)).trans (u2_fr (by omega))
          rw [A (81 + 2 * t) 0 (by omega) (by omega), A (81 + 2 * t) 1 (by omega) (by omega), A 107 t (by omega) (by omega), A 108 t (by omega) (by omega)]
          refine ⟨q1, q2, q3, q4, q5, fun k hk => ?_⟩
          by_cases hh : t = tn s ∧ k = tn i
          · obtain ⟨rfl, rfl⟩ := hh
            rw [hI2, u2_at, u2_fr (by omega), u2_at]
          · rw [A _ k (by omega) (by omega), A 109 _ (by omega) (by omega)]
            exact q6 k hk
      · refine ⟨I, -12, I, ?_, ?_, h⟩
        · unfold f_X11_cell
          rw [g]
          simp only [Option.bind_some, ocase_so]
          rw [if_pos k1, ms]
          simp only [Option.bind_some, p_b01]
          rw [if_pos hm]
          by_cases hn : i.toInt < 0
          · rw [if_pos (by rw [fa_lt]; exact hn)]
          · rw [if_neg (by rw [fa_lt]; exact hn), if_neg (by rw [fa_lt, q2]; omega)]
        · unfold f_X12_cell
          simp only [m_in, Option.bind_some, p_b01, e]
          rw [if_neg (by show ¬ ¬ ((0 : Int) ≤ _ ∧ _ ≤ (3 : Int)); omega), if_pos x, if_neg hm', if_pos x, if_pos (by show ¬ ((0 : Int) ≤ _ ∧ _ ≤ _); omega)]
  · have g := sheet_out (ρ := ρ) (I := I) (J := J) N hb
    refine ⟨I, -2, I, ?_, ?_, h⟩
    · unfold f_X11_cell
      rw [g]
      simp only [Option.bind_some, ocase_no]
    · unfold f_X12_cell
      simp only [m_in, Option.bind_some, p_b01]
      rw [if_pos (by show ¬ ((0 : Int) ≤ _ ∧ _ ≤ (3 : Int)); omega)]
