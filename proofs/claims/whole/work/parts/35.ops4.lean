/-! ===== the pure layer: feed, sheet, cell ===== -/
theorem p_ge {n m : Nat} (hn : n < 2147483648) (hm : m < 2147483648) : (Int32.ofNat n ≤ Int32.ofNat m) ↔ n ≤ m := by
  rw [fa_le, p_nI hn, p_nI hm]; omega
theorem p_ixn {k n : Nat} (h : k < n) (hn : k < 2147483648) : ¬ (Int32.ofNat k < 0 ∨ n ≤ tn (Int32.ofNat k)) := by
  have e := p_nI hn
  exact p_ix (by omega) (by omega)
theorem fill_loop {N : Nat} {J : Nat → Nat → Int64} {ρ : Rh} {a n : Nat} {v : Int32} (hk : ρ.2.1 a = (1, n)) (hn : n < 2147483647) : ∀ (d k fuel : Nat) (I : Nat → Nat → Int32), k + d = n → d < fuel → f_J7_fill_53178_5 N J ρ a v (Int32.ofNat n) fuel I (Int32.ofNat k) = some (fun b j => if b = a ∧ k ≤ j ∧ j < n then v else I b j)
  | 0, k, fuel + 1, I, h1, h2 => by
    rw [f_J7_fill_53178_5.eq_2, if_pos ((p_ge (by omega) (by omega)).mpr (by omega))]
    congr 1; funext b j
    rw [if_neg (by omega)]
  | d + 1, k, fuel + 1, I, h1, h2 => by
    rw [f_J7_fill_53178_5.eq_2, if_neg (fun z => absurd ((p_ge (by omega) (by omega)).mp z) (by omega)), hk, if_pos rfl, if_pos (p_ixn (by omega) (by omega)), p_succ (by omega), fill_loop hk hn d (k + 1) fuel _ (by omega) (by omega), p_tnI (by omega)]
    congr 1; funext b j
    rw [u2_ap]
    by_cases hb : b = a
    · by_cases hj : j = k
      · subst hb; subst hj
        rw [if_neg (by omega), if_pos rfl, if_pos rfl, if_pos (by omega)]
      · by_cases hq : k ≤ j ∧ j < n
        · rw [if_pos (by omega), if_pos (by omega)]
        · rw [if_neg (by omega), if_pos hb, if_neg hj, if_neg (by omega)]
    · rw [if_neg (by omega), if_neg hb, if_neg (by omega)]
theorem fill_all {N : Nat} {J : Nat → Nat → Int64} {ρ : Rh} {I : Nat → Nat → Int32} {a n : Nat} {v : Int32} (hk : ρ.2.1 a = (1, n)) (hn : n < 2147483647) (hN : n < N) : f_J7_fill_53178 N ρ I J a v = some (fun b j => if b = a ∧ j < n then v else I b j) := by
  unfold f_J7_fill_53178
  rw [hk, if_pos rfl]
  have e := fill_loop (N := N) (J := J) (v := v) hk hn n 0 N I (by omega) hN
  rw [show (0 : Int32) = Int32.ofNat 0 from rfl]
  simp only [e, Option.bind_some, Nat.zero_le, true_and]
/-- a byte of a long, in class and model -/
theorem by_rel (y : Int64) : ((y.toInt32).toInt8.toInt32).toInt8.toInt32 = ((y &&& 255).toInt32).toInt8.toInt32 ∧ bw ((y &&& 255).toInt32) 0 255 := by
  constructor
  · rw [Int64.toInt8_toInt32, Int64.toInt8_toInt32, Int64.toInt8_and, Int8.toInt8_toInt32, show (255 : Int64).toInt8 = -1 from rfl, Int8.and_neg_one]
  · rw [Int64.toInt32_and, show (255 : Int64).toInt32 = 255 from rfl, pk_and _ 8 rfl]
    unfold bw
    have h := p_nI (n := y.toInt32.toBitVec.toNat % 2 ^ 8) (by omega)
    have e : nI (y.toInt32.toBitVec.toNat % 2 ^ 8) = Int32.ofNat (y.toInt32.toBitVec.toNat % 2 ^ 8) := rfl
    rw [e]
    omega
def byY (w : Int64) (i : Int32) : Int64 := w >>> ((8 * i).toInt64 &&& 63)
theorem c_app {N : Nat} {J : Nat → Nat → Int64} {ρ : Rh} {w : Int64} : ∀ (k fuel sz : Nat) (i : Int32) (I : Nat → Nat → Int32), i.toInt = (k : Int) - 1 → k < fuel → I 35 1 = Int32.ofNat sz → sz + k ≤ 160 → ∃ I', f_X8_append_5 N J ρ w fuel I i = some I' ∧ I' 35 1 = Int32.ofNat (sz + k) ∧ (∀ a j : Nat, ¬ (a = 35 ∧ j = 1) → ¬ (a = 36 ∧ sz ≤ j ∧ j < sz + k) → I' a j = I a j) ∧ ∀ t : Nat, t < k → I' 36 (sz + t) = (((byY w (Int32.ofInt ((k : Int) - 1 - t))).toInt32).toInt8.toInt32).toInt8.toInt32
  | 0, fuel + 1, sz, i, I, h1, h2, h3, h4 => by
    refine ⟨I, ?_, h3, fun _ _ _ _ => rfl, fun t ht => absurd ht (by omega)⟩
    rw [f_X8_append_5.eq_2, if_pos (by rw [fa_lt]; show _ < (0 : Int); omega)]
  | k + 1, fuel + 1, sz, i, I, h1, h2, h3, h4 => by
    have e1 : (i + -1).toInt = i.toInt - 1 := p_add (b := -1) (by show _ ≤ _ + (-1 : Int); omega) (by show _ + (-1 : Int) < _; omega)
    obtain ⟨I', g1, g2, g3, g4⟩ := c_app (N := N) (J := J) (ρ := ρ) (w := w) k fuel (sz + 1) (i + -1) (u2 (u2 I 36 sz (((byY w i).toInt32).toInt8.toInt32).toInt8.toInt32) 35 1 (Int32.ofNat (sz + 1))) (by omega) (by omega) u2_at (by omega)
    refine ⟨I', ?_, ?_, ?_, ?_⟩
    · rw [f_X8_append_5.eq_2, if_neg (by rw [fa_lt]; show ¬ _ < (0 : Int); omega), h3, if_neg (by rw [fa_le, p_nI (by omega)]; show ¬ (160 : Int) ≤ _; omega)]
      simp only [bnd]
      rw [if_pos (p_ixn (by omega) (by omega)), p_tnI (by omega), p_succ (by omega)]
      exact g1
    · rw [g2, show sz + 1 + k = sz + (k + 1) by omega]
    · intro a j z1 z2
      rw [g3 a j z1 (by omega)]
      exact (u2_fr (by omega)).trans (u2_fr (by omega))
    · intro t ht
      cases t with
      | zero =>
        have e : i = Int32.ofInt (((k + 1 : Nat) : Int) - 1 - (0 : Nat)) := by
          refine p_eq ?_
          rw [Int32.toInt_ofInt_of_le (by omega) (by omega)]; omega
        rw [g3 36 (sz + 0) (by omega) (by omega), u2_fr (by omega), Nat.add_zero, u2_at, ← e]
      | succ t =>
        have := g4 t (by omega)
        rw [show sz + (t + 1) = sz + 1 + t by omega, this, show (((k + 1 : Nat) : Int) - 1 - ((t + 1 : Nat) : Int)) = (k : Int) - 1 - (t : Int) by omega]
theorem m_app {N : Nat} {J : Nat → Nat → Int64} {ρ : Rh} {w : Int64} : ∀ (k fuel sz : Nat) (i : Int32) (I : Nat → Nat → Int32), i.toInt = (k : Int) - 1 → k < fuel → I 89 14 = Int32.ofNat sz → sz + k ≤ 160 → ∃ I', f_X12_feed_33 N J ρ w fuel I i = some I' ∧ I' 89 14 = Int32.ofNat (sz + k) ∧ (∀ a j : Nat, ¬ (a = 89 ∧ j = 14) → ¬ (a = 97 ∧ sz ≤ j ∧ j < sz + k) → I' a j = I a j) ∧ ∀ t : Nat, t < k → I' 97 (sz + t) = ((byY w (Int32.ofInt ((k : Int) - 1 - t))) &&& 255).toInt32
  | 0, fuel + 1, sz, i, I, h1, h2, h3, h4 => by
    refine ⟨I, ?_, h3, fun _ _ _ _ => rfl, fun t ht => absurd ht (by omega)⟩
    rw [f_X12_feed_33.eq_2, if_pos (by rw [fa_lt]; show _ < (0 : Int); omega)]
  | k + 1, fuel + 1, sz, i, I, h1, h2, h3, h4 => by
    have e1 : (i + -1).toInt = i.toInt - 1 := p_add (b := -1) (by show _ ≤ _ + (-1 : Int); omega) (by show _ + (-1 : Int) < _; omega)
    obtain ⟨I', g1, g2, g3, g4⟩ := m_app (N := N) (J := J) (ρ := ρ) (w := w) k fuel (sz + 1) (i + -1) (u2 (u2 I 97 sz ((byY w i) &&& 255).toInt32) 89 14 (Int32.ofNat (sz + 1))) (by omega) (by omega) u2_at (by omega)
    refine ⟨I', ?_, ?_, ?_, ?_⟩
    · rw [f_X12_feed_33.eq_2, if_neg (by rw [fa_lt]; show ¬ _ < (0 : Int); omega), h3]
      simp only [bnd]
      rw [if_pos (p_ixn (by omega) (by omega)), p_tnI (by omega), p_succ (by omega)]
      exact g1
    · rw [g2, show sz + 1 + k = sz + (k + 1) by omega]
    · intro a j z1 z2
      rw [g3 a j z1 (by omega)]
      exact (u2_fr (by omega)).trans (u2_fr (by omega))
    · intro t ht
      cases t with
      | zero =>
        have e : i = Int32.ofInt (((k + 1 : Nat) : Int) - 1 - (0 : Nat)) := by
          refine p_eq ?_
          rw [Int32.toInt_ofInt_of_le (by omega) (by omega)]; omega
        rw [g3 97 (sz + 0) (by omega) (by omega), u2_fr (by omega), Nat.add_zero, u2_at, ← e]
      | succ t =>
        have := g4 t (by omega)
        rw [show sz + (t + 1) = sz + 1 + t by omega, this, show (((k + 1 : Nat) : Int) - 1 - ((t + 1 : Nat) : Int)) = (k : Int) - 1 - (t : Int) by omega]
theorem op_feed {ρ : Rh} {I : Nat → Nat → Int32} {J : Nat → Nat → Int64} (N : Nat) (h : Inv ρ I J) (hN : 200 ≤ N) (w : Int64) (n : Int32) : ∃ I1 r I2, f_X11_feed N ρ I J w n = some (I1, r) ∧ f_X12_feed N ρ I1 J w n = some (I2, r) ∧ Inv ρ I2 J := by
  obtain ⟨sh, hm, ht, hd, hp, hs, hr, hl, hf, hi, hw⟩ := id h
  obtain ⟨p1, p2, p3⟩ := id hp
  unfold bw at p2
  have tt := p_tnc (I 89 14) (by omega)
  have hsz : I 89 14 = Int32.ofNat (tn (I 89 14)) := (p_tnb p2.1).symm
  by_cases hb : 1 ≤ n.toInt ∧ n.toInt ≤ 8
  · have e1 : (n - 1).toInt = n.toInt - 1 := p_sub (b := 1) (by show _ ≤ _ - (1 : Int); omega) (by show _ - (1 : Int) < _; omega)
    have e2 : (160 - I 35 1).toInt = 160 - (I 35 1).toInt := p_sub (a := 160) (by show _ ≤ (160 : Int) - _; rw [p1]; omega) (by show (160 : Int) - _ < _; rw [p1]; omega)
    have e3 : (I 89 14 + n).toInt = (I 89 14).toInt + n.toInt := p_add (by omega) (by omega)
    have tn2 := p_tnc n (by omega)
    rw [p1] at e2
    by_cases hf8 : n.toInt + (I 89 14).toInt ≤ 160
    · obtain ⟨I1, C1, C2, C3, C4⟩ := c_app (N := N) (J := J) (ρ := ρ) (w := w) (tn n) N (tn (I 89 14)) (n - 1) I (by omega) (by omega) (p1.trans hsz) (by omega)
      have z : I1 89 14 = I 89 14 := C3 89 14 (by omega) (by omega)
      obtain ⟨I2, M1, M2, M3, M4⟩ := m_app (N := N) (J := J) (ρ := ρ) (w := w) (tn n) N (tn (I 89 14)) (n - 1) I1 (by omega) (by omega) (z.trans hsz) (by omega)
      refine ⟨I1, Int32.ofNat (tn (I 89 14) + tn n), I2, ?_, ?_, ?_⟩
      · unfold f_X11_feed f_X8_append
        rw [if_neg (by rw [fa_lt]; show ¬ _ < (1 : Int); omega), if_pos (by rw [fa_le]; show _ ≤ (8 : Int); omega), if_pos (by rw [fa_le, p1]; omega), C1]
        simp only [Option.bind_some, C2]
      · unfold f_X12_feed
        simp only [m_in, Option.bind_some, p_b01]
        rw [if_neg (by show ¬ ¬ ((1 : Int) ≤ _ ∧ _ ≤ (8 : Int)); omega), if_pos (by rw [fa_le, z]; show _ ≤ (160 : Int); omega), M1]
        simp only [Option.bind_some, M2]
      · refine ⟨sh, fr_vMen (fun a k hh => (M3 a k (by omega) (by omega)).trans (C3 a k (by omega) (by omega))) hm, fr_vTold (fun a k hh => (M3 a k (by omega) (by omega)).trans (C3 a k (by omega) (by omega))) ht, fr_vDays (fun a k hh => (M3 a k (by omega) (by omega)).trans (C3 a k (by omega) (by omega))) hd, ?_, fr_vSheet (fun a k hh => (M3 a k (by omega) (by omega)).trans (C3 a k (by omega) (by omega))) hs, fr_vRules (fun a k hh => (M3 a k (by omega) (by omega)).trans (C3 a k (by omega) (by omega))) hr, fr_vLaws (fun a k hh => (M3 a k (by omega) (by omega)).trans (C3 a k (by omega) (by omega))) hl, fr_vForce (fun a k hh => (M3 a k (by omega) (by omega)).trans (C3 a k (by omega) (by omega))) hf, fr_vImg (fun a k hh => (M3 a k (by omega) (by omega)).trans (C3 a k (by omega) (by omega))) hi, hw⟩
        refine ⟨?_, ?_, ?_⟩
        · rw [M2, M3 35 1 (by omega) (by omega), C2]
        · rw [M2]; unfold bw; rw [p_nI (by omega)]; omega
        · intro k hk
          by_cases hin : tn (I 89 14) ≤ k ∧ k < tn (I 89 14) + tn n
          · obtain ⟨t, rfl⟩ : ∃ t, k = tn (I 89 14) + t := ⟨k - tn (I 89 14), by omega⟩
            rw [M3 36 _ (by omega) (by omega), C4 t (by omega), M4 t (by omega)]
            exact by_rel _
          · rw [M3 36 _ (by omega) (by omega), M3 97 _ (by omega) (by omega), C3 36 _ (by omega) (by omega), C3 97 _ (by omega) (by omega)]
            exact p3 k hk
    · refine ⟨I, -4, I, ?_, ?_, h⟩
      · unfold f_X11_feed
        rw [if_neg (by rw [fa_lt]; show ¬ _ < (1 : Int); omega), if_pos (by rw [fa_le]; show _ ≤ (8 : Int); omega), if_neg (by rw [fa_le, p1]; omega)]
      · unfold f_X12_feed
        simp only [m_in, Option.bind_some, p_b01]
        rw [if_neg (by show ¬ ¬ ((1 : Int) ≤ _ ∧ _ ≤ (8 : Int)); omega), if_neg (by rw [fa_le]; show ¬ _ ≤ (160 : Int); omega)]
  · refine ⟨I, -2, I, ?_, ?_, h⟩
    · unfold f_X11_feed
      by_cases hn : n.toInt < 1
      · rw [if_pos (by rw [fa_lt]; exact hn)]
      · rw [if_neg (by rw [fa_lt]; exact hn), if_neg (by rw [fa_le]; show ¬ _ ≤ (8 : Int); omega)]
    · unfold f_X12_feed
      simp only [m_in, Option.bind_some, p_b01]
      rw [if_pos (by show ¬ ((1 : Int) ≤ _ ∧ _ ≤ (8 : Int)); omega)]
