/-! ===== the pure layer: the call rule ===== -/
theorem c_holds {N : Nat} {ρ : Rh} (sh : Sh ρ) {I : Nat → Nat → Int32} {J : Nat → Nat → Int64} {s n : Nat} (hs : s < 4) (hn : I (81 + 2 * s) 1 = Int32.ofNat n) (hn40 : n ≤ 40) : ∀ (d k fuel : Nat), k + d = n → d < fuel → ∃ r, f_X7_holdsOnly_2 N I J ρ (81 + 2 * s) 0 50 fuel (Int32.ofNat k) = some r ∧ ((r = Sum.inr () ∧ ∀ m, k ≤ m → m < n → bw (I (82 + 2 * s) m) 0 50) ∨ (r = Sum.inl 0 ∧ ¬ ∀ m, k ≤ m → m < n → bw (I (82 + 2 * s) m) 0 50))
  | 0, k, fuel + 1, z1, z2 => by
    refine ⟨Sum.inr (), ?_, Or.inl ⟨rfl, fun m h1 h2 => absurd h1 (by omega)⟩⟩
    rw [f_X7_holdsOnly_2.eq_2, if_pos (sheet_k sh hs).1, hn, if_pos ((p_ge (by omega) (by omega)).mpr (by omega))]
  | d + 1, k, fuel + 1, z1, z2 => by
    obtain ⟨k1, k2, k3⟩ := sheet_k sh hs
    have base : f_X7_holdsOnly_2 N I J ρ (81 + 2 * s) 0 50 (fuel + 1) (Int32.ofNat k) = if (I (82 + 2 * s) k) < 0 then some (Sum.inl 0) else (if I (82 + 2 * s) k ≤ 50 then f_X7_holdsOnly_2 N I J ρ (81 + 2 * s) 0 50 fuel (Int32.ofNat (k + 1)) else some (Sum.inl 0)) := by
      rw [f_X7_holdsOnly_2.eq_2, if_pos k1, hn, if_neg (fun z => absurd ((p_ge (by omega) (by omega)).mp z) (by omega)), k2]
      simp only [Option.bind_some, k3]
      have xk := p_ixn (k := k) (n := 40) (by omega) (by omega)
      rw [p_tnI (by omega)] at xk
      rw [if_pos trivial, p_tnI (by omega), if_pos xk, p_succ (by omega), if_pos trivial, if_pos xk]
    by_cases h1 : bw (I (82 + 2 * s) k) 0 50
    · obtain ⟨r, e1, e2⟩ := c_holds sh hs hn hn40 d (k + 1) fuel (by omega) (by omega)
      refine ⟨r, ?_, ?_⟩
      · rw [base, if_neg (by rw [fa_lt]; show ¬ _ < (0 : Int); exact Int.not_lt.mpr h1.1), if_pos (by rw [fa_le]; exact h1.2)]
        exact e1
      · refine e2.imp (fun z => ⟨z.1, fun m m1 m2 => ?_⟩) (fun z => ⟨z.1, fun y => z.2 (fun m m1 m2 => y m (by omega) m2)⟩)
        by_cases hm : m = k
        · subst hm; exact h1
        · exact z.2 m (by omega) m2
    · refine ⟨Sum.inl 0, ?_, Or.inr ⟨rfl, fun y => h1 (y k (Nat.le_refl _) (by omega))⟩⟩
      rw [base]
      unfold bw at h1
      by_cases h2 : (I (82 + 2 * s) k).toInt < 0
      · rw [if_pos (by rw [fa_lt]; exact h2)]
      · rw [if_neg (by rw [fa_lt]; exact h2), if_neg (by rw [fa_le]; show ¬ _ ≤ (50 : Int); omega)]
theorem m_holds {N : Nat} {ρ : Rh} {I : Nat → Nat → Int32} {J : Nat → Nat → Int64} {s p2 : Int32} {n : Nat} (h0 : 0 ≤ s.toInt) (h1 : s.toInt < 4) (hn : I 89 0 = Int32.ofNat n) (hn8 : n ≤ 8) : ∀ (d k fuel : Nat), k + d = n → d < fuel → ∃ r, f_X12_rule_95 N I J ρ 4 p2 s fuel 1 (Int32.ofNat k) = some r ∧ ((r = 1 ∧ ∀ m, k ≤ m → m < n → bw (I 109 (40 * tn s + m)) 0 50) ∨ (r = 0 ∧ ¬ ∀ m, k ≤ m → m < n → bw (I 109 (40 * tn s + m)) 0 50))
  | 0, k, fuel + 1, z1, z2 => by
    refine ⟨1, ?_, Or.inl ⟨rfl, fun m h1 h2 => absurd h1 (by omega)⟩⟩
    rw [f_X12_rule_95.eq_2, hn, if_pos ((p_ge (by omega) (by omega)).mpr (by omega))]
  | d + 1, k, fuel + 1, z1, z2 => by
    have ek := p_nI (n := k) (by omega)
    obtain ⟨x1, x2⟩ := cell_ix h0 h1 (i := Int32.ofNat k) (by omega) (by omega)
    rw [p_tnI (by omega)] at x2
    have base : f_X12_rule_95 N I J ρ 4 p2 s (fuel + 1) 1 (Int32.ofNat k) = f_X12_rule_95 N I J ρ 4 p2 s fuel (if (0 : Int) ≤ (I 109 (40 * tn s + k)).toInt ∧ (I 109 (40 * tn s + k)).toInt ≤ 50 then 1 else 0) (Int32.ofNat (k + 1)) := by
      rw [f_X12_rule_95.eq_2, hn, if_neg (fun z => absurd ((p_ge (by omega) (by omega)).mp z) (by omega)), if_neg (by decide), if_pos rfl, if_pos x1, x2, m_in]
      simp only [Option.bind_some]
      rw [p_succ (by omega)]
      rfl
    by_cases hb : bw (I 109 (40 * tn s + k)) 0 50
    · obtain ⟨r, e1, e2⟩ := m_holds (N := N) (ρ := ρ) (J := J) (p2 := p2) h0 h1 hn hn8 d (k + 1) fuel (by omega) (by omega)
      refine ⟨r, ?_, ?_⟩
      · rw [base, if_pos (show (0 : Int) ≤ (I 109 (40 * tn s + k)).toInt ∧ (I 109 (40 * tn s + k)).toInt ≤ 50 from hb)]; exact e1
      · refine e2.imp (fun z => ⟨z.1, fun m m1 m2 => ?_⟩) (fun z => ⟨z.1, fun y => z.2 (fun m m1 m2 => y m (by omega) m2)⟩)
        by_cases hm : m = k
        · subst hm; exact hb
        · exact z.2 m (by omega) m2
    · refine ⟨0, ?_, Or.inr ⟨rfl, fun y => hb (y k (Nat.le_refl _) (by omega))⟩⟩
      rw [base, if_neg (show ¬ ((0 : Int) ≤ (I 109 (40 * tn s + k)).toInt ∧ (I 109 (40 * tn s + k)).toInt ≤ 50) from hb)]
      cases fuel with
      | zero => omega
      | succ f =>
        rw [f_X12_rule_95.eq_2]
        split
        · rfl
        · rw [if_pos rfl]
theorem m_holds0 {N : Nat} {ρ : Rh} {I : Nat → Nat → Int32} {J : Nat → Nat → Int64} {k p2 s : Int32} {fuel : Nat} (hf : 0 < fuel) : f_X12_rule_95 N I J ρ k p2 s fuel 0 0 = some 0 := by
  cases fuel with
  | zero => omega
  | succ f =>
    rw [f_X12_rule_95.eq_2]
    split
    · rfl
    · rw [if_pos rfl]
theorem m_holds1 {N : Nat} {ρ : Rh} {I : Nat → Nat → Int32} {J : Nat → Nat → Int64} {k p2 s : Int32} {fuel : Nat} (hf : 0 < fuel) (hk : ¬ k = 4) : f_X12_rule_95 N I J ρ k p2 s fuel 1 0 = some 1 := by
  cases fuel with
  | zero => omega
  | succ f =>
    rw [f_X12_rule_95.eq_2]
    by_cases h : I 89 0 ≤ 0
    · rw [if_pos h]
    · rw [if_neg h]
      simp [hk]
theorem m_nums {N : Nat} {ρ : Rh} {J : Nat → Nat → Int64} {k s : Int32} {n r : Nat} (hn8 : n ≤ 8) (hr : r < 8) (hs : k = 4 → 0 ≤ s.toInt ∧ s.toInt < 4) : ∀ (d m fuel : Nat) (I : Nat → Nat → Int32), m + d = 8 → d < fuel → I 89 0 = Int32.ofNat n → I 89 9 = Int32.ofNat r → ∃ I', f_X12_rule_183 N J ρ k s fuel I (Int32.ofNat m) = some I' ∧ (∀ b j, ¬ (b = 96 ∧ 8 * r + m ≤ j ∧ j < 8 * r + 8) → I' b j = I b j) ∧ (∀ j, m ≤ j → j < 8 → I' 96 (8 * r + j) = if k = 4 ∧ j < n then I 109 (40 * tn s + j) else 0)
  | 0, m, fuel + 1, I, z1, z2, h1, h2 => by
    refine ⟨I, ?_, fun _ _ _ => rfl, fun j h1 h2 => absurd h1 (by omega)⟩
    rw [f_X12_rule_183.eq_2, if_pos (by rw [fa_le, p_nI (by omega)]; show (8 : Int) ≤ _; omega)]
  | d + 1, m, fuel + 1, I, z1, z2, h1, h2 => by
    have em := p_nI (n := m) (by omega)
    have er := p_nI (n := r) (by omega)
    obtain ⟨x, hx⟩ : ∃ x, x = if k = 4 ∧ m < n then I 109 (40 * tn s + m) else 0 := ⟨_, rfl⟩
    have e1 : (8 * Int32.ofNat r).toInt = 8 * r := by rw [p_mul (a := 8) (by rw [er]; show _ ≤ (8 : Int) * _; omega) (by rw [er]; show (8 : Int) * _ < _; omega), er]; rfl
    have e2 : 8 * Int32.ofNat r + Int32.ofNat m = Int32.ofNat (8 * r + m) := by
      refine p_eq ?_
      rw [p_add (by omega) (by omega), e1, em, p_nI (by omega)]; omega
    have base : f_X12_rule_183 N J ρ k s (fuel + 1) I (Int32.ofNat m) = f_X12_rule_183 N J ρ k s fuel (u2 I 96 (8 * r + m) x) (Int32.ofNat (m + 1)) := by
      rw [f_X12_rule_183.eq_2, if_neg (by rw [fa_le, em]; show ¬ (8 : Int) ≤ _; omega)]
      have hj : (if k = 4 then (if I 89 0 ≤ Int32.ofNat m then some 0 else (if ¬ (40 * s + Int32.ofNat m < 0 ∨ 160 ≤ tn (40 * s + Int32.ofNat m)) then some (I 109 (tn (40 * s + Int32.ofNat m))) else none)) else some 0) = some x := by
        rw [hx]
        by_cases hk : k = 4
        · rw [if_pos hk, h1]
          by_cases hmn : m < n
          · obtain ⟨x1, x2⟩ := cell_ix (hs hk).1 (hs hk).2 (i := Int32.ofNat m) (by omega) (by omega)
            rw [p_tnI (by omega)] at x2
            rw [if_neg (fun z => absurd ((p_ge (by omega) (by omega)).mp z) (by omega)), if_pos x1, x2, if_pos ⟨hk, hmn⟩]
          · rw [if_pos ((p_ge (by omega) (by omega)).mpr (by omega)), if_neg (fun z => hmn z.2)]
        · rw [if_neg hk, if_neg (fun z => hk z.1)]
      rw [hj]
      simp only [Option.bind_some]
      rw [h2, e2, if_pos (p_ixn (by omega) (by omega)), p_tnI (by omega), p_succ (by omega)]
    obtain ⟨I', g1, g2, g3⟩ := m_nums (N := N) (ρ := ρ) (J := J) (k := k) (s := s) (n := n) (r := r) hn8 hr hs d (m + 1) fuel (u2 I 96 (8 * r + m) x) (by omega) (by omega) ((u2_fr (by omega)).trans h1) ((u2_fr (by omega)).trans h2)
    refine ⟨I', base.trans g1, fun b j z => ?_, fun j j1 j2 => ?_⟩
    · rw [g2 b j (by omega)]; exact u2_fr (by omega)
    · by_cases hj : j = m
      · subst hj
        rw [g2 96 _ (by omega), u2_at, hx]
      · rw [g3 j (by omega) j2, u2_fr (by omega)]
