/-! ===== the pure layer: what a law comes to, the model ===== -/
theorem p_lin4 {t k : Nat} (h : 4 * t + k < 2147483648) : (4 : Int32) * Int32.ofNat t + Int32.ofNat k = Int32.ofNat (4 * t + k) := by
  have et := p_nI (n := t) (by omega)
  have ek := p_nI (n := k) (by omega)
  have e1 : ((4 : Int32) * Int32.ofNat t).toInt = 4 * (t : Int) := by rw [p_mul (a := 4) (by rw [et]; show _ ≤ (4 : Int) * _; omega) (by rw [et]; show (4 : Int) * _ < _; omega), et]; rfl
  refine p_eq ?_
  rw [p_add (by omega) (by omega), e1, ek, p_nI h]; omega
theorem p_lin8 {t k : Nat} (h : 8 * t + k < 2147483648) : (8 : Int32) * Int32.ofNat t + Int32.ofNat k = Int32.ofNat (8 * t + k) := by
  have et := p_nI (n := t) (by omega)
  have ek := p_nI (n := k) (by omega)
  have e1 : ((8 : Int32) * Int32.ofNat t).toInt = 8 * (t : Int) := by rw [p_mul (a := 8) (by rw [et]; show _ ≤ (8 : Int) * _; omega) (by rw [et]; show (8 : Int) * _ < _; omega), et]; rfl
  refine p_eq ?_
  rw [p_add (by omega) (by omega), e1, ek, p_nI h]; omega
theorem p_lin40 {t k : Nat} (h : 40 * t + k < 2147483648) : (40 : Int32) * Int32.ofNat t + Int32.ofNat k = Int32.ofNat (40 * t + k) := by
  have et := p_nI (n := t) (by omega)
  have ek := p_nI (n := k) (by omega)
  have e1 : ((40 : Int32) * Int32.ofNat t).toInt = 40 * (t : Int) := by rw [p_mul (a := 40) (by rw [et]; show _ ≤ (40 : Int) * _; omega) (by rw [et]; show (40 : Int) * _ < _; omega), et]; rfl
  refine p_eq ?_
  rw [p_add (by omega) (by omega), e1, ek, p_nI h]; omega
theorem p_lin200 {t k : Nat} (h : 200 * t + k < 2147483648) : (200 : Int32) * Int32.ofNat t + Int32.ofNat k = Int32.ofNat (200 * t + k) := by
  have et := p_nI (n := t) (by omega)
  have ek := p_nI (n := k) (by omega)
  have e1 : ((200 : Int32) * Int32.ofNat t).toInt = 200 * (t : Int) := by rw [p_mul (a := 200) (by rw [et]; show _ ≤ (200 : Int) * _; omega) (by rw [et]; show (200 : Int) * _ < _; omega), et]; rfl
  refine p_eq ?_
  rw [p_add (by omega) (by omega), e1, ek, p_nI h]; omega
theorem nm_m {c m : Int32} (h : -6 ≤ c.toInt) (h0 : c.toInt < 0) (hm : m.toInt = -1 - c.toInt) : ¬ (m < 0 ∨ 6 ≤ tn m) ∧ tn m = tn (-1 - c) := by
  have q : c.toInt = -1 ∨ c.toInt = -2 ∨ c.toInt = -3 ∨ c.toInt = -4 ∨ c.toInt = -5 ∨ c.toInt = -6 := by omega
  rcases q with q | q | q | q | q | q
  · rw [show c = -1 from p_eq q, show m = 0 from p_eq (by rw [hm, q]; rfl)]; decide
  · rw [show c = -2 from p_eq q, show m = 1 from p_eq (by rw [hm, q]; rfl)]; decide
  · rw [show c = -3 from p_eq q, show m = 2 from p_eq (by rw [hm, q]; rfl)]; decide
  · rw [show c = -4 from p_eq q, show m = 3 from p_eq (by rw [hm, q]; rfl)]; decide
  · rw [show c = -5 from p_eq q, show m = 4 from p_eq (by rw [hm, q]; rfl)]; decide
  · rw [show c = -6 from p_eq q, show m = 5 from p_eq (by rw [hm, q]; rfl)]; decide
theorem cm_op {c m : Int32} (h : cmR c m) (hc : -6 ≤ c.toInt) : (0 ≤ c.toInt ∧ c.toInt ≤ 9999 ∧ m.toInt = 100000 + c.toInt) ∨ (c.toInt < 0 ∧ m.toInt = -1 - c.toInt) := by
  unfold cmR bw at h
  omega
theorem cm_7 {m : Int32} (h : cmR (-7) m) : m = 19 := by
  unfold cmR bw at h
  have e : (-7 : Int32).toInt = -7 := rfl
  rw [e] at h
  exact p_eq (by show _ = (19 : Int); omega)
theorem cm_8 {m : Int32} (h : cmR (-8) m) : m = 13 := by
  unfold cmR bw at h
  have e : (-8 : Int32).toInt = -8 := rfl
  rw [e] at h
  exact p_eq (by show _ = (13 : Int); omega)
theorem cm_b {c m : Int32} (h : cmR c m) (hc : bw c (-15) (-9)) : 11 ≤ m.toInt ∧ m.toInt ≤ 18 ∧ ¬ m.toInt = 13 := by
  unfold cmR bw at h
  unfold bw at hc
  omega
theorem m_val {N : Nat} {ρ : Rh} {J : Nat → Nat → Int64} {f nm : Nat → Int32} {p1 p2 : Int32} {part t i j : Nat} {D : Nat → Nat} (hp1 : p1 = Int32.ofNat part) (hpart : part < 2) (ht : t < 6) (hj : j < 160) (hD : ∀ k, i ≤ k → k < j → dpR (f k) (D k) (D (k + 1))) : ∀ (d k fuel : Nat) (I : Nat → Nat → Int32) (s : Nat → Int32), k + d = j → i ≤ k → d < fuel → D k ≤ k → I 89 18 = Int32.ofNat t → I 99 (4 * t + part + 1) = Int32.ofNat j → (∀ q, i ≤ q → q < j → cmR (f q) (I 98 (200 * t + q))) → (∀ q, q < 6 → I 113 q = nm q) → (∀ q, q < D k → I 112 q = s q) → ∃ I', f_X12_worth_17 N J ρ p1 p2 fuel I (Int32.ofNat (D k)) (Int32.ofNat k) = some I' ∧ (∀ x q, ¬ x = 112 → I' x q = I x q) ∧ (∀ q, q < D j → I' 112 q = evs f nm d k s (D k) q)
  | 0, k, fuel + 1, I, s, z1, z2, z3, z4, h18, h99, hcm, hN, hS => by
    have e : k = j := by omega
    subst e
    refine ⟨I, ?_, fun _ _ _ => rfl, hS⟩
    rw [f_X12_worth_17.eq_2, h18, hp1, p_lin4 (by omega), p_succ (by omega), if_pos (p_ixn (by omega) (by omega)), p_tnI (by omega), h99, if_pos ((p_ge (by omega) (by omega)).mpr (by omega))]
  | d + 1, k, fuel + 1, I, s, z1, z2, z3, z4, h18, h99, hcm, hN, hS => by
    have hd := hD k z2 (by omega)
    have hmk := hcm k z2 (by omega)
    obtain ⟨m, em⟩ : ∃ m, m = I 98 (200 * t + k) := ⟨_, rfl⟩
    rw [← em] at hmk
    rcases dp_three hd with ⟨hc1, hc2⟩ | ⟨hc1, hc2, hc3⟩ | ⟨hc1, hc2, hc3⟩ | ⟨hc1, hc2, hc3⟩
    · obtain ⟨v, hv⟩ : ∃ v, v = if 0 ≤ (f k).toInt then f k else nm (tn (-1 - f k)) := ⟨_, rfl⟩
      have hstep : f_X12_worth_17 N J ρ p1 p2 (fuel + 1) I (Int32.ofNat (D k)) (Int32.ofNat k) = f_X12_worth_17 N J ρ p1 p2 fuel (u2 I 112 (D k) (v)) (Int32.ofNat (D (k + 1))) (Int32.ofNat (k + 1)) := by
        rw [f_X12_worth_17.eq_2, h18, hp1, p_lin4 (by omega), p_succ (by omega), if_pos (p_ixn (by omega) (by omega)), p_tnI (by omega), h99, if_neg (fun z => absurd ((p_ge (by omega) (by omega)).mp z) (by omega)), p_lin200 (by omega), if_pos (p_ixn (by omega) (by omega)), p_tnI (by omega)]
        simp only [bnd]
        rw [← em]
        have join : (if 11 ≤ m then some (m - 100000) else (if ¬ (m < 0 ∨ 6 ≤ tn m) then some (I 113 (tn m)) else none)) = some v := by
          rcases cm_op hmk hc1 with ⟨c1, c2, c3⟩ | ⟨c1, c2⟩
          · rw [if_pos (by rw [fa_le]; show (11 : Int) ≤ _; omega), hv, if_pos c1]
            congr 1
            refine p_eq ?_
            rw [p_sub (b := 100000) (by show _ ≤ _ - (100000 : Int); omega) (by show _ - (100000 : Int) < _; omega)]
            show m.toInt - (100000 : Int) = _
            omega
          · obtain ⟨n1, n2⟩ := nm_m hc1 c1 c2
            rw [if_neg (by rw [fa_le]; show ¬ (11 : Int) ≤ _; omega), if_pos n1, hv, if_neg (by omega), n2, hN _ (nm_ix hc1 c1).2]
        rw [join]
        by_cases hbig : 100000 ≤ m
        · rw [if_pos hbig]
          simp only [Option.bind_some]
          rw [if_pos (p_ixn (by omega) (by omega)), p_tnI (by omega), p_succ (by omega), p_succ (by omega), hc2]
          rfl
        · have h11 : ¬ 11 ≤ m := by
            rw [fa_le] at hbig ⊢
            have hbig' : ¬ (100000 : Int) ≤ m.toInt := hbig
            show ¬ (11 : Int) ≤ m.toInt
            rcases cm_op hmk hc1 with ⟨c1, c2, c3⟩ | ⟨c1, c2⟩ <;> omega
          rw [if_neg hbig, if_neg h11]
          simp only [Option.bind_some]
          rw [if_pos (p_ixn (by omega) (by omega)), p_tnI (by omega), p_succ (by omega), p_succ (by omega), hc2]
          rfl
      obtain ⟨I', g1, g2, g3⟩ := m_val (N := N) (J := J) (ρ := ρ) (p2 := p2) (D := D) (f := f) (nm := nm) (i := i) hp1 hpart ht hj hD d (k + 1) fuel (u2 I 112 (D k) (v)) (up s (D k) (v)) (by omega) (by omega) (by omega) (by omega) ((u2_fr (by omega)).trans h18) ((u2_fr (by omega)).trans h99) (fun q q1 q2 => by rw [u2_fr (by omega)]; exact hcm q q1 q2) (fun q hq => (u2_fr (by omega)).trans (hN q hq)) (fun q hq => by
        rw [u2_ap, if_pos rfl, up_ap]
        by_cases hqq : q = D k
        · rw [if_pos hqq, if_pos hqq]
        · rw [if_neg hqq, if_neg hqq]; exact hS q (by omega))
      refine ⟨I', hstep.trans g1, fun x q hx => (g2 x q hx).trans (u2_fr (by omega)), fun q hq => ?_⟩
      rw [g3 q hq]
      show _ = evs f nm d (k + 1) (stv (f k) nm s (D k)).1 (stv (f k) nm s (D k)).2 q
      rw [stv_op hc1, ← hv, hc2]
    · have hm19 : m = 19 := cm_7 (by rw [← hc1]; exact hmk)
      have hstep : f_X12_worth_17 N J ρ p1 p2 (fuel + 1) I (Int32.ofNat (D k)) (Int32.ofNat k) = f_X12_worth_17 N J ρ p1 p2 fuel (u2 I 112 (D k - 1) (-(s (D k - 1)))) (Int32.ofNat (D (k + 1))) (Int32.ofNat (k + 1)) := by
        rw [f_X12_worth_17.eq_2, h18, hp1, p_lin4 (by omega), p_succ (by omega), if_pos (p_ixn (by omega) (by omega)), p_tnI (by omega), h99, if_neg (fun z => absurd ((p_ge (by omega) (by omega)).mp z) (by omega)), p_lin200 (by omega), if_pos (p_ixn (by omega) (by omega)), p_tnI (by omega)]
        simp only [bnd]
        rw [← em, hm19, if_neg (by decide), if_pos (by decide), if_neg (by decide), if_pos rfl, p_pred hc2 (by omega), if_pos (p_ixn (by omega) (by omega)), if_pos (p_ixn (by omega) (by omega)), p_tnI (by omega), hS _ (by omega)]
        simp only [Option.bind_some]
        rw [p_succ (by omega), hc3]
      obtain ⟨I', g1, g2, g3⟩ := m_val (N := N) (J := J) (ρ := ρ) (p2 := p2) (D := D) (f := f) (nm := nm) (i := i) hp1 hpart ht hj hD d (k + 1) fuel (u2 I 112 (D k - 1) (-(s (D k - 1)))) (up s (D k - 1) (-(s (D k - 1)))) (by omega) (by omega) (by omega) (by omega) ((u2_fr (by omega)).trans h18) ((u2_fr (by omega)).trans h99) (fun q q1 q2 => by rw [u2_fr (by omega)]; exact hcm q q1 q2) (fun q hq => (u2_fr (by omega)).trans (hN q hq)) (fun q hq => by
        rw [u2_ap, if_pos rfl, up_ap]
        by_cases hqq : q = D k - 1
        · rw [if_pos hqq, if_pos hqq]
        · rw [if_neg hqq, if_neg hqq]; exact hS q (by omega))
      refine ⟨I', hstep.trans g1, fun x q hx => (g2 x q hx).trans (u2_fr (by omega)), fun q hq => ?_⟩
      rw [g3 q hq]
      show _ = evs f nm d (k + 1) (stv (f k) nm s (D k)).1 (stv (f k) nm s (D k)).2 q
      rw [hc1, stv_7, hc3]
    · have hm13 : m = 13 := cm_8 (by rw [← hc1]; exact hmk)
      have hstep : f_X12_worth_17 N J ρ p1 p2 (fuel + 1) I (Int32.ofNat (D k)) (Int32.ofNat k) = f_X12_worth_17 N J ρ p1 p2 fuel (u2 I 112 (D k - 1) (if s (D k - 1) = 0 then 1 else 0)) (Int32.ofNat (D (k + 1))) (Int32.ofNat (k + 1)) := by
        rw [f_X12_worth_17.eq_2, h18, hp1, p_lin4 (by omega), p_succ (by omega), if_pos (p_ixn (by omega) (by omega)), p_tnI (by omega), h99, if_neg (fun z => absurd ((p_ge (by omega) (by omega)).mp z) (by omega)), p_lin200 (by omega), if_pos (p_ixn (by omega) (by omega)), p_tnI (by omega)]
        simp only [bnd]
        rw [← em, hm13, if_neg (by decide), if_pos (by decide), if_pos rfl, p_pred hc2 (by omega), if_pos (p_ixn (by omega) (by omega)), p_tnI (by omega), hS _ (by omega)]
        have xq := p_ixn (k := D k - 1) (n := 200) (by omega) (by omega)
        rw [p_tnI (by omega)] at xq
        rw [show (if s (D k - 1) = 0 then some (1 : Int32) else some 0) = some (if s (D k - 1) = 0 then 1 else 0) from by split <;> rfl]
        simp only [Option.bind_some]
        rw [if_pos xq, p_succ (by omega), hc3]
        rfl
      obtain ⟨I', g1, g2, g3⟩ := m_val (N := N) (J := J) (ρ := ρ) (p2 := p2) (D := D) (f := f) (nm := nm) (i := i) hp1 hpart ht hj hD d (k + 1) fuel (u2 I 112 (D k - 1) (if s (D k - 1) = 0 then 1 else 0)) (up s (D k - 1) (if s (D k - 1) = 0 then 1 else 0)) (by omega) (by omega) (by omega) (by omega) ((u2_fr (by omega)).trans h18) ((u2_fr (by omega)).trans h99) (fun q q1 q2 => by rw [u2_fr (by omega)]; exact hcm q q1 q2) (fun q hq => (u2_fr (by omega)).trans (hN q hq)) (fun q hq => by
        rw [u2_ap, if_pos rfl, up_ap]
        by_cases hqq : q = D k - 1
        · rw [if_pos hqq, if_pos hqq]
        · rw [if_neg hqq, if_neg hqq]; exact hS q (by omega))
      refine ⟨I', hstep.trans g1, fun x q hx => (g2 x q hx).trans (u2_fr (by omega)), fun q hq => ?_⟩
      rw [g3 q hq]
      show _ = evs f nm d (k + 1) (stv (f k) nm s (D k)).1 (stv (f k) nm s (D k)).2 q
      rw [hc1, stv_8, hc3]
    · obtain ⟨b1, b2, b3⟩ := cm_b hmk hc1
      have hstep : f_X12_worth_17 N J ρ p1 p2 (fuel + 1) I (Int32.ofNat (D k)) (Int32.ofNat k) = f_X12_worth_17 N J ρ p1 p2 fuel (u2 I 112 (D k - 2) (jn (f k) (s (D k - 2)) (s (D k - 1)))) (Int32.ofNat (D (k + 1))) (Int32.ofNat (k + 1)) := by
        rw [f_X12_worth_17.eq_2, h18, hp1, p_lin4 (by omega), p_succ (by omega), if_pos (p_ixn (by omega) (by omega)), p_tnI (by omega), h99, if_neg (fun z => absurd ((p_ge (by omega) (by omega)).mp z) (by omega)), p_lin200 (by omega), if_pos (p_ixn (by omega) (by omega)), p_tnI (by omega)]
        simp only [bnd]
        rw [← em, if_neg (by rw [fa_le]; show ¬ (100000 : Int) ≤ _; omega), if_pos (by rw [fa_le]; show (11 : Int) ≤ _; omega), if_neg (fun z => b3 (by rw [z]; rfl)), if_neg (fun z => by rw [z] at b2; exact absurd b2 (by decide)), p_pred' (by omega) (by omega), p_pred (by omega) (by omega)]
        have xq := p_ixn (k := D k - 1 - 1) (n := 200) (by omega) (by omega)
        have xr := p_ixn (k := D k - 1) (n := 200) (by omega) (by omega)
        rw [p_tnI (by omega)] at xq xr
        rw [p_tnI (by omega), p_tnI (by omega), if_pos xq, if_pos xr, hS _ (by omega), hS _ (by omega), m_two hc1 hmk]
        simp only [Option.bind_some]
        rw [if_pos xq]
        simp only [Option.bind_some]
        rw [p_succ (by omega), show D (k + 1) = D k - 1 by omega, show D k - 1 - 1 = D k - 2 by omega]
      obtain ⟨I', g1, g2, g3⟩ := m_val (N := N) (J := J) (ρ := ρ) (p2 := p2) (D := D) (f := f) (nm := nm) (i := i) hp1 hpart ht hj hD d (k + 1) fuel (u2 I 112 (D k - 2) (jn (f k) (s (D k - 2)) (s (D k - 1)))) (up s (D k - 2) (jn (f k) (s (D k - 2)) (s (D k - 1)))) (by omega) (by omega) (by omega) (by omega) ((u2_fr (by omega)).trans h18) ((u2_fr (by omega)).trans h99) (fun q q1 q2 => by rw [u2_fr (by omega)]; exact hcm q q1 q2) (fun q hq => (u2_fr (by omega)).trans (hN q hq)) (fun q hq => by
        rw [u2_ap, if_pos rfl, up_ap]
        by_cases hqq : q = D k - 2
        · rw [if_pos hqq, if_pos hqq]
        · rw [if_neg hqq, if_neg hqq]; exact hS q (by omega))
      refine ⟨I', hstep.trans g1, fun x q hx => (g2 x q hx).trans (u2_fr (by omega)), fun q hq => ?_⟩
      rw [g3 q hq]
      show _ = evs f nm d (k + 1) (stv (f k) nm s (D k)).1 (stv (f k) nm s (D k)).2 q
      rw [stv_b hc1, show D k - 1 = D (k + 1) by omega]
