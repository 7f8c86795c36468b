/-! ===== the pure layer: copy, men ===== -/
theorem m_copy {N : Nat} {J : Nat → Nat → Int64} {ρ : Rh} {p5 c12 c13 : Int32} {a b n : Nat} (h5 : p5 = Int32.ofNat n) (h12 : c12 = Int32.ofNat a) (h13 : c13 = Int32.ofNat b) (ha : a + n ≤ 160) (hb : b + n ≤ 160) (H : Nat → Int32) : ∀ (d k fuel : Nat) (I : Nat → Nat → Int32), k + d = n → d < fuel → (∀ x, I 109 x = if b ≤ a then (if b ≤ x ∧ x < b + k then H (a + x - b) else H x) else (if b + n - k ≤ x ∧ x < b + n then H (a + x - b) else H x)) → ∃ I', f_X12_copy_147 N J ρ p5 c12 c13 fuel I (Int32.ofNat k) = some I' ∧ (∀ q j : Nat, ¬ q = 109 → I' q j = I q j) ∧ ∀ x, I' 109 x = if b ≤ x ∧ x < b + n then H (a + x - b) else H x
  | 0, k, fuel + 1, I, z1, z2, z3 => by
    refine ⟨I, ?_, fun _ _ _ => rfl, fun x => ?_⟩
    · rw [f_X12_copy_147.eq_2, if_pos (by rw [h5]; exact (p_ge (by omega) (by omega)).mpr (by omega))]
    · rw [z3 x]
      by_cases hab : b ≤ a
      · rw [if_pos hab]
        by_cases hx : b ≤ x ∧ x < b + n
        · rw [if_pos (by omega), if_pos hx]
        · rw [if_neg (by omega), if_neg hx]
      · rw [if_neg hab]
        by_cases hx : b ≤ x ∧ x < b + n
        · rw [if_pos (by omega), if_pos hx]
        · rw [if_neg (by omega), if_neg hx]
  | d + 1, k, fuel + 1, I, z1, z2, z3 => by
    have hs : f_X12_copy_147 N J ρ p5 c12 c13 (fuel + 1) I (Int32.ofNat k) = f_X12_copy_147 N J ρ p5 c12 c13 fuel (u2 I 109 (b + (if b ≤ a then k else n - 1 - k)) (I 109 (a + (if b ≤ a then k else n - 1 - k)))) (Int32.ofNat (k + 1)) := by
      rw [f_X12_copy_147.eq_2, if_neg (by rw [h5]; exact fun z => absurd ((p_ge (by omega) (by omega)).mp z) (by omega))]
      have hc : (if c13 ≤ c12 then some (Int32.ofNat k) else some (p5 - 1 - Int32.ofNat k)) = some (Int32.ofNat (if b ≤ a then k else n - 1 - k)) := by
        by_cases hab : b ≤ a
        · rw [if_pos (by rw [h13, h12]; exact (p_ge (by omega) (by omega)).mpr hab), if_pos hab]
        · rw [if_neg (by rw [h13, h12]; exact fun z => hab ((p_ge (by omega) (by omega)).mp z)), if_neg hab, h5]
          congr 1
          refine p_eq ?_
          have e0 := p_nI (n := n) (by omega)
          have e1 := p_nI (n := k) (by omega)
          have e2 : (Int32.ofNat n - 1).toInt = n - 1 := by rw [p_sub (b := 1) (by show _ ≤ _ - (1 : Int); omega) (by show _ - (1 : Int) < _; omega), e0]; rfl
          rw [p_sub (by omega) (by omega), e2, e1, p_nI (by omega)]; omega
      rw [hc]
      simp only [Option.bind_some]
      have hq : (if b ≤ a then k else n - 1 - k) < n := by split <;> omega
      generalize (if b ≤ a then k else n - 1 - k) = q at hq
      have f1 : c12 + Int32.ofNat q = Int32.ofNat (a + q) := by
        rw [h12]; refine p_eq ?_
        rw [p_add (by rw [p_nI (by omega), p_nI (by omega)]; omega) (by rw [p_nI (by omega), p_nI (by omega)]; omega), p_nI (by omega), p_nI (by omega), p_nI (by omega)]; omega
      have f2 : c13 + Int32.ofNat q = Int32.ofNat (b + q) := by
        rw [h13]; refine p_eq ?_
        rw [p_add (by rw [p_nI (by omega), p_nI (by omega)]; omega) (by rw [p_nI (by omega), p_nI (by omega)]; omega), p_nI (by omega), p_nI (by omega), p_nI (by omega)]; omega
      rw [f1, f2, if_pos (p_ixn (by omega) (by omega)), if_pos (p_ixn (by omega) (by omega)), p_tnI (by omega), p_tnI (by omega), p_succ (by omega)]
    obtain ⟨I', g1, g2, g3⟩ := m_copy h5 h12 h13 ha hb H d (k + 1) fuel (u2 I 109 (b + (if b ≤ a then k else n - 1 - k)) (I 109 (a + (if b ≤ a then k else n - 1 - k)))) (by omega) (by omega) (by
      intro x
      rw [u2_ap, if_pos rfl]
      by_cases hab : b ≤ a
      · rw [if_pos hab, if_pos hab]
        by_cases hx : x = b + k
        · rw [if_pos hx, if_pos (by omega), z3, if_pos hab, if_neg (by omega)]; congr 1; omega
        · rw [if_neg hx, z3, if_pos hab]
          by_cases hy : b ≤ x ∧ x < b + k
          · rw [if_pos hy, if_pos (by omega)]
          · rw [if_neg hy, if_neg (by omega)]
      · rw [if_neg hab, if_neg hab]
        by_cases hx : x = b + (n - 1 - k)
        · rw [if_pos hx, if_pos (by omega), z3, if_neg hab, if_neg (by omega)]; congr 1; omega
        · rw [if_neg hx, z3, if_neg hab]
          by_cases hy : b + n - k ≤ x ∧ x < b + n
          · rw [if_pos hy, if_pos (by omega)]
          · rw [if_neg hy, if_neg (by omega)])
    exact ⟨I', hs.trans g1, fun q j hq => (g2 q j hq).trans (u2_fr (by omega)), g3⟩
theorem c_room {ρ : Rh} (sh : Sh ρ) {I : Nat → Nat → Int32} {J : Nat → Nat → Int64} (N : Nat) (hs : vSheet I) {s : Nat} (h : s < 4) (i n : Int32) : f_X7_hasRoom N ρ I J (81 + 2 * s) i n = some (if 0 ≤ n.toInt ∧ n.toInt ≤ (I 108 s).toInt ∧ 0 ≤ i.toInt ∧ i.toInt ≤ (I 108 s).toInt - n.toInt then 1 else 0) := by
  obtain ⟨q1, q2, q3, q4, q5, q6⟩ := hs s h
  unfold bw at q4
  unfold f_X7_hasRoom
  rw [(sheet_k sh h).1, q2]
  by_cases h1 : n.toInt < 0
  · rw [if_pos (by rw [fa_lt]; exact h1), if_neg (by omega)]
  by_cases h2 : (I 108 s).toInt < n.toInt
  · rw [if_neg (by rw [fa_lt]; exact h1), if_pos rfl, if_pos (by rw [fa_lt]; exact h2), if_neg (by omega)]
  by_cases h3 : i.toInt < 0
  · rw [if_neg (by rw [fa_lt]; exact h1), if_pos rfl, if_neg (by rw [fa_lt]; exact h2), if_pos (by rw [fa_lt]; exact h3), if_neg (by omega)]
  have e : (I 108 s - n).toInt = (I 108 s).toInt - n.toInt := p_sub (by omega) (by omega)
  by_cases h4 : (I 108 s).toInt - n.toInt < i.toInt
  · rw [if_neg (by rw [fa_lt]; exact h1), if_pos rfl, if_neg (by rw [fa_lt]; exact h2), if_neg (by rw [fa_lt]; exact h3), if_pos (by rw [fa_lt, e]; exact h4), if_neg (by omega)]
  · rw [if_neg (by rw [fa_lt]; exact h1), if_pos rfl, if_neg (by rw [fa_lt]; exact h2), if_neg (by rw [fa_lt]; exact h3), if_neg (by rw [fa_lt, e]; exact h4), if_pos (by omega)]
theorem p_off {s i : Int32} (h0 : 0 ≤ s.toInt) (h1 : s.toInt < 4) (h2 : 0 ≤ i.toInt) (h3 : i.toInt ≤ 40) : 40 * s + i = Int32.ofNat (40 * tn s + tn i) := by
  have e1 : (40 * s).toInt = 40 * s.toInt := p_mul (a := 40) (by show _ ≤ (40 : Int) * _; omega) (by show (40 : Int) * _ < _; omega)
  have e2 : (40 * s + i).toInt = 40 * s.toInt + i.toInt := by rw [p_add (by omega) (by omega), e1]
  have t1 := p_tnc s h0
  have t2 := p_tnc i h2
  refine p_eq ?_
  rw [p_nI (by omega)]; omega
theorem op_copy {ρ : Rh} {I : Nat → Nat → Int32} {J : Nat → Nat → Int64} (N : Nat) (h : Inv ρ I J) (hN : 200 ≤ N) (s i t j n : Int32) : ∃ I1 r I2, f_X11_copy N ρ I J s i t j n = some (I1, r) ∧ f_X12_copy N ρ I1 J s i t j n = some (I2, r) ∧ Inv ρ I2 J := by
  obtain ⟨sh, hm, ht, hd, hp, hs, hr, hl, hf, hi, hw⟩ := id h
  by_cases hb : (0 ≤ s.toInt ∧ s.toInt < 4) ∧ (0 ≤ t.toInt ∧ t.toInt < 4)
  · obtain ⟨hb, hb'⟩ := hb
    have g := sheet_in (ρ := ρ) (I := I) (J := J) N hb.1 hb.2
    have g' := sheet_in (ρ := ρ) (I := I) (J := J) N hb'.1 hb'.2
    have ts := p_tnc s hb.1
    have ts' := p_tnc t hb'.1
    have h4 : tn s < 4 := by omega
    have h4' : tn t < 4 := by omega
    obtain ⟨k1, k2, k3⟩ := sheet_k sh h4
    obtain ⟨k1', k2', k3'⟩ := sheet_k sh h4'
    have x := p_ix (a := s) (n := 4) hb.1 (by show _ < (4 : Int); omega)
    have x' := p_ix (a := t) (n := 4) hb'.1 (by show _ < (4 : Int); omega)
    have ms := c_miss sh (J := J) N hs h4
    have ms' := c_miss sh (J := J) N hs h4'
    have rs := c_room sh (J := J) N hs h4 i n
    have rs' := c_room sh (J := J) N hs h4' j n
    obtain ⟨q1, q2, q3, q4, q5, q6⟩ := hs (tn s) h4
    obtain ⟨q1', q2', q3', q4', q5', q6'⟩ := hs (tn t) h4'
    unfold bw at q3 q4 q3' q4'
    by_cases hmm : (I 107 (tn s)).toInt = -1 ∨ (I 107 (tn t)).toInt = -1
    · refine ⟨I, -11, I, ?_, ?_, h⟩
      · unfold f_X11_copy
        rw [g, g']
        simp only [Option.bind_some, ocase_so]
        rw [if_pos k1, ms]
        simp only [Option.bind_some, p_b01]
        by_cases h1 : (I 107 (tn s)).toInt = -1
        · rw [if_neg (by omega)]
        · rw [if_pos h1, if_pos k1', ms']
          simp only [Option.bind_some, p_b01]
          rw [if_neg (by omega)]
      · unfold f_X12_copy
        simp only [m_in, Option.bind_some, p_b01]
        rw [if_neg (by show ¬ ¬ ((0 : Int) ≤ s.toInt ∧ s.toInt ≤ (3 : Int)); omega), if_neg (by show ¬ ¬ ((0 : Int) ≤ t.toInt ∧ t.toInt ≤ (3 : Int)); omega), if_pos x]
        by_cases h1 : (I 107 (tn s)).toInt = -1
        · rw [if_pos (p_eq h1)]
        · rw [if_neg (fun z => h1 (by rw [z]; rfl)), if_pos x', if_pos (p_eq (hmm.resolve_left h1))]
    · have n1 : ¬ I 107 (tn s) = -1 := fun z => hmm (Or.inl (by rw [z]; rfl))
      have n2 : ¬ I 107 (tn t) = -1 := fun z => hmm (Or.inr (by rw [z]; rfl))
      by_cases hu : I 107 (tn s) = I 107 (tn t)
      · have hu' : I (81 + 2 * tn s) 0 = I (81 + 2 * tn t) 0 := q1.trans (hu.trans q1'.symm)
        by_cases hr0 : (0 ≤ n.toInt ∧ n.toInt ≤ (I 108 (tn s)).toInt ∧ 0 ≤ i.toInt ∧ i.toInt ≤ (I 108 (tn s)).toInt - n.toInt) ∧ (0 ≤ n.toInt ∧ n.toInt ≤ (I 108 (tn t)).toInt ∧ 0 ≤ j.toInt ∧ j.toInt ≤ (I 108 (tn t)).toInt - n.toInt)
        · obtain ⟨u1, u2'⟩ := hr0
          have ti := p_tnc i u1.2.2.1
          have tj := p_tnc j u2'.2.2.1
          have tq := p_tnc n u1.1
          have e1 : (I 108 (tn s) - i).toInt = (I 108 (tn s)).toInt - i.toInt := p_sub (by omega) (by omega)
          have e2 : (I 108 (tn t) - j).toInt = (I 108 (tn t)).toInt - j.toInt := p_sub (by omega) (by omega)
          obtain ⟨I1, hI1⟩ : ∃ I1, I1 = up I (82 + 2 * tn t) (cpy (I (82 + 2 * tn s)) (I (82 + 2 * tn t)) (tn i) (tn j) (tn n)) := ⟨_, rfl⟩
          have A1 : ∀ b k : Nat, ¬ b = 82 + 2 * tn t → I1 b k = I b k := fun b k z => by rw [hI1, up_ap, if_neg z]
          have B1 : ∀ k : Nat, I1 (82 + 2 * tn t) k = if tn j ≤ k ∧ k < tn j + tn n then I (82 + 2 * tn s) (tn i + (k - tn j)) else I (82 + 2 * tn t) k := fun k => by rw [hI1, up_ap, if_pos rfl]; rfl
          obtain ⟨I2, g1, g2, g3⟩ := m_copy (N := N) (J := J) (ρ := ρ) (p5 := n) (c12 := 40 * s + i) (c13 := 40 * t + j) (a := 40 * tn s + tn i) (b := 40 * tn t + tn j) (n := tn n) (p_tnb u1.1).symm (p_off hb.1 hb.2 (by omega) (by omega)) (p_off hb'.1 hb'.2 (by omega) (by omega)) (by omega) (by omega) (I 109) (tn n) 0 N I1 (by omega) (by omega) (by
            intro y
            rw [A1 109 y (by omega)]
            split
            · rw [if_neg (by omega)]
            · rw [if_neg (by omega)])
          refine ⟨I1, n, I2, ?_, ?_, ?_⟩
          · unfold f_X11_copy
            rw [g, g']
            simp only [Option.bind_some, ocase_so]
            rw [if_pos k1, ms]
            simp only [Option.bind_some, p_b01]
            rw [if_pos (by omega), if_pos k1', ms']
            simp only [Option.bind_some, p_b01]
            rw [if_pos (by omega), if_pos hu', rs]
            simp only [Option.bind_some, p_b01]
            rw [if_neg (by omega), rs']
            simp only [Option.bind_some, p_b01]
            rw [if_neg (by omega), k2]
            simp only [Option.bind_some]
            rw [k2']
            simp only [Option.bind_some, k3, k3']
            rw [if_pos trivial, if_pos trivial, if_pos (by rw [fa_lt]; show ¬ _ < (0 : Int); omega), if_pos (by rw [fa_lt]; show ¬ _ < (0 : Int); omega), if_pos (by rw [fa_lt]; show ¬ _ < (0 : Int); omega), if_pos (by omega), if_pos (by omega), hI1]
          · unfold f_X12_copy
            simp only [m_in, Option.bind_some, p_b01]
            rw [A1 107 _ (by omega), A1 107 _ (by omega), A1 108 _ (by omega), A1 108 _ (by omega)]
            rw [if_neg (by show ¬ ¬ ((0 : Int) ≤ s.toInt ∧ s.toInt ≤ (3 : Int)); omega), if_neg (by show ¬ ¬ ((0 : Int) ≤ t.toInt ∧ t.toInt ≤ (3 : Int)); omega), if_pos x, if_neg n1, if_pos x', if_neg n2, if_pos x, if_pos x', if_pos hu]
            rw [if_neg (by rw [fa_lt]; show ¬ _ < (0 : Int); omega), if_neg (by rw [fa_lt]; show ¬ _ < (0 : Int); omega), if_neg (by rw [fa_lt]; show ¬ _ < (0 : Int); omega), if_pos x, if_neg (by rw [fa_lt]; omega), if_pos x', if_neg (by rw [fa_lt]; omega), if_pos x, if_neg (by rw [fa_lt]; omega), if_pos x', if_pos (by rw [fa_le]; omega)]
            rw [show (0 : Int32) = Int32.ofNat 0 from rfl, g1]
            rfl
          · have A2 : ∀ b k : Nat, ¬ b = 82 + 2 * tn t → ¬ b = 109 → I2 b k = I b k := fun b k z1 z2 => (g2 b k z2).trans (A1 b k z1)
            refine ⟨sh, fr_vMen (fun a k hh => A2 a k (by omega) (by omega)) hm, fr_vTold (fun a k hh => A2 a k (by omega) (by omega)) ht, fr_vDays (fun a k hh => A2 a k (by omega) (by omega)) hd, fr_vTape (fun a k hh => A2 a k (by omega) (by omega)) hp, ?_, fr_vRules (fun a k hh => A2 a k (by omega) (by omega)) hr, fr_vLaws (fun a k hh => A2 a k (by omega) (by omega)) hl, fr_vForce (fun a k hh => A2 a k (by omega) (by omega)) hf, fr_vImg (fun a k hh => A2 a k (by omega) (by omega)) hi, hw⟩
            intro r hr4
            obtain ⟨v1, v2, v3, v4, v5, v6⟩ := hs r hr4
            rw [A2 (81 + 2 * r) 0 (by omega) (by omega), A2 (81 + 2 * r) 1 (by omega) (by omega), A2 107 r (by omega) (by omega), A2 108 r (by omega) (by omega)]
            refine ⟨v1, v2, v3, v4, v5, fun k hk => ?_⟩
            rw [g3, g2 (82 + 2 * r) k (by omega)]
            by_cases hrt : r = tn t
            · subst hrt
              rw [B1]
              by_cases hin : tn j ≤ k ∧ k < tn j + tn n
              · rw [if_pos hin, if_pos (by omega), q6 _ (by omega)]; congr 1; omega
              · rw [if_neg hin, if_neg (by omega)]; exact q6' k hk
            · rw [A1 _ k (by omega), if_neg (by omega)]; exact v6 k hk
        · refine ⟨I, -12, I, ?_, ?_, h⟩
          · unfold f_X11_copy
            rw [g, g']
            simp only [Option.bind_some, ocase_so]
            rw [if_pos k1, ms]
            simp only [Option.bind_some, p_b01]
            rw [if_pos (by omega), if_pos k1', ms']
            simp only [Option.bind_some, p_b01]
            rw [if_pos (by omega), if_pos hu', rs]
            simp only [Option.bind_some, p_b01]
            by_cases hr1 : 0 ≤ n.toInt ∧ n.toInt ≤ (I 108 (tn s)).toInt ∧ 0 ≤ i.toInt ∧ i.toInt ≤ (I 108 (tn s)).toInt - n.toInt
            · rw [if_neg (by omega), rs']
              simp only [Option.bind_some, p_b01]
              rw [if_pos (by omega)]
            · rw [if_pos hr1]
          · unfold f_X12_copy
            simp only [m_in, Option.bind_some, p_b01]
            rw [if_neg (by show ¬ ¬ ((0 : Int) ≤ s.toInt ∧ s.toInt ≤ (3 : Int)); omega), if_neg (by show ¬ ¬ ((0 : Int) ≤ t.toInt ∧ t.toInt ≤ (3 : Int)); omega), if_pos x, if_neg n1, if_pos x', if_neg n2, if_pos x, if_pos x', if_pos hu]
            by_cases c1 : n.toInt < 0
            · rw [if_pos (by rw [fa_lt]; exact c1)]
            rw [if_neg (by rw [fa_lt]; exact c1)]
            by_cases c2 : i.toInt < 0
            · rw [if_pos (by rw [fa_lt]; exact c2)]
            rw [if_neg (by rw [fa_lt]; exact c2)]
            by_cases c3 : j.toInt < 0
            · rw [if_pos (by rw [fa_lt]; exact c3)]
            rw [if_neg (by rw [fa_lt]; exact c3), if_pos x]
            by_cases c4 : (I 108 (tn s)).toInt < i.toInt
            · rw [if_pos (by rw [fa_lt]; exact c4)]
            rw [if_neg (by rw [fa_lt]; exact c4), if_pos x']
            by_cases c5 : (I 108 (tn t)).toInt < j.toInt
            · rw [if_pos (by rw [fa_lt]; exact c5)]
            rw [if_neg (by rw [fa_lt]; exact c5), if_pos x]
            have e1 : (I 108 (tn s) - i).toInt = (I 108 (tn s)).toInt - i.toInt := p_sub (by omega) (by omega)
            have e2 : (I 108 (tn t) - j).toInt = (I 108 (tn t)).toInt - j.toInt := p_sub (by omega) (by omega)
            by_cases c6 : (I 108 (tn s)).toInt - i.toInt < n.toInt
            · rw [if_pos (by rw [fa_lt, e1]; exact c6)]
            rw [if_neg (by rw [fa_lt, e1]; exact c6), if_pos x', if_neg (by rw [fa_le, e2]; omega)]
      · have hu' : ¬ I (81 + 2 * tn s) 0 = I (81 + 2 * tn t) 0 := fun z => hu (q1.symm.trans (z.trans q1'))
        refine ⟨I, -13, I, ?_, ?_, h⟩
        · unfold f_X11_copy
          rw [g, g']
          simp only [Option.bind_some, ocase_so]
          rw [if_pos k1, ms]
          simp only [Option.bind_some, p_b01]
          rw [if_pos (by omega), if_pos k1', ms']
          simp only [Option.bind_some, p_b01]
          rw [if_pos (by omega), if_neg hu']
        · unfold f_X12_copy
          simp only [m_in, Option.bind_some, p_b01]
          rw [if_neg (by show ¬ ¬ ((0 : Int) ≤ s.toInt ∧ s.toInt ≤ (3 : Int)); omega), if_neg (by show ¬ ¬ ((0 : Int) ≤ t.toInt ∧ t.toInt ≤ (3 : Int)); omega), if_pos x, if_neg n1, if_pos x', if_neg n2, if_pos x, if_pos x', if_neg hu]
  · refine ⟨I, -2, I, ?_, ?_, h⟩
    · unfold f_X11_copy
      by_cases h1 : 0 ≤ s.toInt ∧ s.toInt < 4
      · rw [sheet_in N h1.1 h1.2, sheet_out N (fun z => hb ⟨h1, z⟩)]
        rfl
      · rw [sheet_out N h1]
        by_cases h2 : 0 ≤ t.toInt ∧ t.toInt < 4
        · rw [sheet_in N h2.1 h2.2]; rfl
        · rw [sheet_out N h2]; rfl
    · unfold f_X12_copy
      simp only [m_in, Option.bind_some, p_b01]
      by_cases h1 : 0 ≤ s.toInt ∧ s.toInt < 4
      · rw [if_neg (by show ¬ ¬ ((0 : Int) ≤ s.toInt ∧ s.toInt ≤ (3 : Int)); omega), if_pos (by show ¬ ((0 : Int) ≤ t.toInt ∧ t.toInt ≤ (3 : Int)); omega)]
      · rw [if_pos (by show ¬ ((0 : Int) ≤ s.toInt ∧ s.toInt ≤ (3 : Int)); omega)]
