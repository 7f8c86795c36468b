/-! ===== the pure layer: image, back ===== -/
theorem keep_gen {ρ : Rh} {I : Nat → Nat → Int32} {J : Nat → Nat → Int64} (N : Nat) {p q p1 p3 p4 p5 q1 q3 q4 q5 n : Nat} (kp : ρ.2.1 p = (0, 0)) (kq : ρ.2.1 q = (0, 0)) (rp1 : ρ.1 p 1 = some p1) (rp3 : ρ.1 p 3 = some p3) (rp4 : ρ.1 p 4 = some p4) (rp5 : ρ.1 p 5 = some p5) (rq1 : ρ.1 q 1 = some q1) (rq3 : ρ.1 q 3 = some q3) (rq4 : ρ.1 q 4 = some q4) (rq5 : ρ.1 q 5 = some q5) (kp1 : ρ.2.1 p1 = (1, 8)) (kp3 : ρ.2.1 p3 = (1, 4)) (kp4 : ρ.2.1 p4 = (1, 12)) (kp5 : ρ.2.1 p5 = (1, 12)) (kq1 : ρ.2.1 q1 = (1, 8)) (kq3 : ρ.2.1 q3 = (1, 4)) (kq4 : ρ.2.1 q4 = (1, 12)) (kq5 : ρ.2.1 q5 = (1, 12)) (hn : 0 ≤ (I q 0).toInt) (hn' : tn (I q 0) = n) (hn8 : n ≤ 8) {l : Nat} (hl : ρ.1 q 6 = some l) (d45 : p4 ≠ p5) (d1 : p1 ≠ q3 ∧ p1 ≠ q4 ∧ p1 ≠ q5 ∧ p1 ≠ p3 ∧ p1 ≠ p4 ∧ p1 ≠ p5) (d3 : p3 ≠ q4 ∧ p3 ≠ q5 ∧ p3 ≠ p4 ∧ p3 ≠ p5) (d4 : p4 ≠ q5) :
    ∃ I', f_X0_keep N ρ I J p q = some (I', (u2 ρ.1 p 6 (some l), ρ.2)) ∧ (∀ b k, ¬ b = p1 → ¬ b = p3 → ¬ b = p4 → ¬ b = p5 → I' b k = I b k) ∧ (∀ k, I' p1 k = if k < n then I q1 k else I p1 k) ∧ (∀ k, I' p3 k = if k < 4 then I q3 k else I p3 k) ∧ (∀ k, I' p4 k = if k < 12 then I q4 k else I p4 k) ∧ (∀ k, I' p5 k = if k < 12 then I q5 k else I p5 k) := by
  have e0 : tn (0 : Int32) = 0 := rfl
  have e4 : tn (4 : Int32) = 4 := rfl
  have e12 : tn (12 : Int32) = 12 := rfl
  obtain ⟨T1, h1⟩ : ∃ T, T = up I p1 (cpy (I q1) (I p1) 0 0 n) := ⟨_, rfl⟩
  obtain ⟨T2, h2⟩ : ∃ T, T = up T1 p3 (cpy (T1 q3) (T1 p3) 0 0 4) := ⟨_, rfl⟩
  obtain ⟨T3, h3⟩ : ∃ T, T = up T2 p4 (cpy (T2 q4) (T2 p4) 0 0 12) := ⟨_, rfl⟩
  obtain ⟨T4, h4⟩ : ∃ T, T = up T3 p5 (cpy (T3 q5) (T3 p5) 0 0 12) := ⟨_, rfl⟩
  have a1 : ∀ b, ¬ b = p1 → T1 b = I b := fun b z => by rw [h1, up_ap, if_neg z]
  have a2 : ∀ b, ¬ b = p3 → T2 b = T1 b := fun b z => by rw [h2, up_ap, if_neg z]
  have a3 : ∀ b, ¬ b = p4 → T3 b = T2 b := fun b z => by rw [h3, up_ap, if_neg z]
  have a4 : ∀ b, ¬ b = p5 → T4 b = T3 b := fun b z => by rw [h4, up_ap, if_neg z]
  have b1 : ∀ k, T1 p1 k = if k < n then I q1 k else I p1 k := fun k => by rw [h1, up_ap, if_pos rfl]; simp [cpy]
  have b2 : ∀ k, T2 p3 k = if k < 4 then T1 q3 k else T1 p3 k := fun k => by rw [h2, up_ap, if_pos rfl]; simp [cpy]
  have b3 : ∀ k, T3 p4 k = if k < 12 then T2 q4 k else T2 p4 k := fun k => by rw [h3, up_ap, if_pos rfl]; simp [cpy]
  have b4 : ∀ k, T4 p5 k = if k < 12 then T3 q5 k else T3 p5 k := fun k => by rw [h4, up_ap, if_pos rfl]; simp [cpy]
  refine ⟨T4, ?_, ?_, ?_, ?_, ?_, ?_⟩
  · unfold f_X0_keep
    simp only [kq, kp, rq1, rq3, rq4, rq5, rp1, rp3, rp4, rp5, kq1, kq3, kq4, kq5, kp1, kp3, kp4, kp5, hl, hn', e0, e4, e12, Option.bind_some, if_true]
    rw [if_pos (by rw [fa_lt]; show ¬ _ < (0 : Int); omega), if_pos (by omega), if_pos (by omega)]
    rw [h4, h3, h2, h1]
    rfl
  · intro b k z1 z2 z3 z4
    rw [a4 b z4, a3 b z3, a2 b z2, a1 b z1]
  · intro k
    rw [a4 p1 (by omega), a3 p1 (by omega), a2 p1 (by omega), b1]
  · intro k
    rw [a4 p3 (by omega), a3 p3 (by omega), b2, a1 q3 (by omega), a1 p3 (by omega)]
  · intro k
    rw [a4 p4 (by omega), b3, a2 q4 (by omega), a2 p4 (by omega), a1 q4 (by omega), a1 p4 (by omega)]
  · intro k
    rw [b4, a3 q5 (by omega), a3 p5 (by omega), a2 q5 (by omega), a2 p5 (by omega), a1 q5 (by omega), a1 p5 (by omega)]
theorem m_im8 {N : Nat} {J : Nat → Nat → Int64} {ρ : Rh} : ∀ (d k fuel : Nat) (I : Nat → Nat → Int32), k + d = 8 → d < fuel → ∃ I', f_X12_image_55 N J ρ fuel I (Int32.ofNat k) = some I' ∧ (∀ b j, ¬ b = 104 → I' b j = I b j) ∧ (∀ j, I' 104 j = if k ≤ j ∧ j < 8 then I 90 j else I 104 j)
  | 0, k, fuel + 1, I, z1, z2 => by
    refine ⟨I, ?_, fun _ _ _ => rfl, fun j => by rw [if_neg (by omega)]⟩
    rw [f_X12_image_55.eq_2, if_pos (by rw [fa_le, p_nI (by omega)]; show (8 : Int) ≤ _; omega)]
  | d + 1, k, fuel + 1, I, z1, z2 => by
    obtain ⟨I', g1, g2, g3⟩ := m_im8 (N := N) (J := J) (ρ := ρ) d (k + 1) fuel (u2 (I) 104 k (I 90 k)) (by omega) (by omega)
    refine ⟨I', ?_, ?_, ?_⟩
    · rw [f_X12_image_55.eq_2, if_neg (by rw [fa_le, p_nI (by omega)]; show ¬ (8 : Int) ≤ _; omega), if_pos (p_ixn (by omega) (by omega)), if_pos (p_ixn (by omega) (by omega)), p_tnI (by omega), p_succ (by omega)]
      exact g1
    · intro b j y0
      rw [g2 b j y0]
      exact u2_fr (by omega)
    · intro j
      rw [g3 j]
      by_cases hj : j = k
      · subst hj
        rw [if_neg (by omega), if_pos (by omega)]
        simp [u2_ap]
      · by_cases hq : k ≤ j ∧ j < 8
        · rw [if_pos (by omega), if_pos hq]
          simp [u2_ap]
        · rw [if_neg (by omega), if_neg hq]
          simp [u2_ap, hj]
theorem m_im12 {N : Nat} {J : Nat → Nat → Int64} {ρ : Rh} : ∀ (d k fuel : Nat) (I : Nat → Nat → Int32), k + d = 12 → d < fuel → ∃ I', f_X12_image_81 N J ρ fuel I (Int32.ofNat k) = some I' ∧ (∀ b j, ¬ b = 105 → ¬ b = 106 → I' b j = I b j) ∧ (∀ j, I' 105 j = if k ≤ j ∧ j < 12 then I 92 j else I 105 j) ∧ (∀ j, I' 106 j = if k ≤ j ∧ j < 12 then I 93 j else I 106 j)
  | 0, k, fuel + 1, I, z1, z2 => by
    refine ⟨I, ?_, fun _ _ _ _ => rfl, fun j => by rw [if_neg (by omega)], fun j => by rw [if_neg (by omega)]⟩
    rw [f_X12_image_81.eq_2, if_pos (by rw [fa_le, p_nI (by omega)]; show (12 : Int) ≤ _; omega)]
  | d + 1, k, fuel + 1, I, z1, z2 => by
    obtain ⟨I', g1, g2, g3, g4⟩ := m_im12 (N := N) (J := J) (ρ := ρ) d (k + 1) fuel (u2 (u2 (I) 105 k (I 92 k)) 106 k (I 93 k)) (by omega) (by omega)
    refine ⟨I', ?_, ?_, ?_, ?_⟩
    · rw [f_X12_image_81.eq_2, if_neg (by rw [fa_le, p_nI (by omega)]; show ¬ (12 : Int) ≤ _; omega), if_pos (p_ixn (by omega) (by omega)), if_pos (p_ixn (by omega) (by omega)), if_pos (p_ixn (by omega) (by omega)), if_pos (p_ixn (by omega) (by omega)), p_tnI (by omega), p_succ (by omega)]
      exact g1
    · intro b j y0 y1
      rw [g2 b j y0 y1]
      exact (u2_fr (by omega)).trans (u2_fr (by omega))
    · intro j
      rw [g3 j]
      by_cases hj : j = k
      · subst hj
        rw [if_neg (by omega), if_pos (by omega)]
        simp [u2_ap]
      · by_cases hq : k ≤ j ∧ j < 12
        · rw [if_pos (by omega), if_pos hq]
          simp [u2_ap]
        · rw [if_neg (by omega), if_neg hq]
          simp [u2_ap, hj]
    · intro j
      rw [g4 j]
      by_cases hj : j = k
      · subst hj
        rw [if_neg (by omega), if_pos (by omega)]
        simp [u2_ap]
      · by_cases hq : k ≤ j ∧ j < 12
        · rw [if_pos (by omega), if_pos hq]
          simp [u2_ap]
        · rw [if_neg (by omega), if_neg hq]
          simp [u2_ap, hj]
theorem m_bk8 {N : Nat} {J : Nat → Nat → Int64} {ρ : Rh} {n : Nat} (hn : n ≤ 8) : ∀ (d k fuel : Nat) (I : Nat → Nat → Int32), k + d = n → d < fuel →  I 89 25 = Int32.ofNat n → ∃ I', f_X12_back_52 N J ρ fuel I (Int32.ofNat k) = some I' ∧ (∀ b j, ¬ b = 90 → I' b j = I b j) ∧ (∀ j, I' 90 j = if k ≤ j ∧ j < n then I 104 j else I 90 j)
  | 0, k, fuel + 1, I, z1, z2, hc => by
    refine ⟨I, ?_, fun _ _ _ => rfl, fun j => by rw [if_neg (by omega)]⟩
    rw [f_X12_back_52.eq_2, if_pos (by rw [hc]; exact (p_ge (by omega) (by omega)).mpr (by omega))]
  | d + 1, k, fuel + 1, I, z1, z2, hc => by
    obtain ⟨I', g1, g2, g3⟩ := m_bk8 hn (N := N) (J := J) (ρ := ρ) d (k + 1) fuel (u2 (I) 90 k (I 104 k)) (by omega) (by omega) ((u2_fr (by omega)).trans hc)
    refine ⟨I', ?_, ?_, ?_⟩
    · rw [f_X12_back_52.eq_2, if_neg (by rw [hc]; exact fun z => absurd ((p_ge (by omega) (by omega)).mp z) (by omega)), if_pos (p_ixn (by omega) (by omega)), if_pos (p_ixn (by omega) (by omega)), p_tnI (by omega), p_succ (by omega)]
      exact g1
    · intro b j y0
      rw [g2 b j y0]
      exact u2_fr (by omega)
    · intro j
      rw [g3 j]
      by_cases hj : j = k
      · subst hj
        rw [if_neg (by omega), if_pos (by omega)]
        simp [u2_ap]
      · by_cases hq : k ≤ j ∧ j < n
        · rw [if_pos (by omega), if_pos hq]
          simp [u2_ap]
        · rw [if_neg (by omega), if_neg hq]
          simp [u2_ap, hj]
theorem m_bk12 {N : Nat} {J : Nat → Nat → Int64} {ρ : Rh} : ∀ (d k fuel : Nat) (I : Nat → Nat → Int32), k + d = 12 → d < fuel → ∃ I', f_X12_back_80 N J ρ fuel I (Int32.ofNat k) = some I' ∧ (∀ b j, ¬ b = 92 → ¬ b = 93 → I' b j = I b j) ∧ (∀ j, I' 92 j = if k ≤ j ∧ j < 12 then I 105 j else I 92 j) ∧ (∀ j, I' 93 j = if k ≤ j ∧ j < 12 then I 106 j else I 93 j)
  | 0, k, fuel + 1, I, z1, z2 => by
    refine ⟨I, ?_, fun _ _ _ _ => rfl, fun j => by rw [if_neg (by omega)], fun j => by rw [if_neg (by omega)]⟩
    rw [f_X12_back_80.eq_2, if_pos (by rw [fa_le, p_nI (by omega)]; show (12 : Int) ≤ _; omega)]
  | d + 1, k, fuel + 1, I, z1, z2 => by
    obtain ⟨I', g1, g2, g3, g4⟩ := m_bk12 (N := N) (J := J) (ρ := ρ) d (k + 1) fuel (u2 (u2 (I) 92 k (I 105 k)) 93 k (I 106 k)) (by omega) (by omega)
    refine ⟨I', ?_, ?_, ?_, ?_⟩
    · rw [f_X12_back_80.eq_2, if_neg (by rw [fa_le, p_nI (by omega)]; show ¬ (12 : Int) ≤ _; omega), if_pos (p_ixn (by omega) (by omega)), if_pos (p_ixn (by omega) (by omega)), if_pos (p_ixn (by omega) (by omega)), if_pos (p_ixn (by omega) (by omega)), p_tnI (by omega), p_succ (by omega)]
      exact g1
    · intro b j y0 y1
      rw [g2 b j y0 y1]
      exact (u2_fr (by omega)).trans (u2_fr (by omega))
    · intro j
      rw [g3 j]
      by_cases hj : j = k
      · subst hj
        rw [if_neg (by omega), if_pos (by omega)]
        simp [u2_ap]
      · by_cases hq : k ≤ j ∧ j < 12
        · rw [if_pos (by omega), if_pos hq]
          simp [u2_ap]
        · rw [if_neg (by omega), if_neg hq]
          simp [u2_ap, hj]
    · intro j
      rw [g4 j]
      by_cases hj : j = k
      · subst hj
        rw [if_neg (by omega), if_pos (by omega)]
        simp [u2_ap]
      · by_cases hq : k ≤ j ∧ j < 12
        · rw [if_pos (by omega), if_pos hq]
          simp [u2_ap]
        · rw [if_neg (by omega), if_neg hq]
          simp [u2_ap, hj]
