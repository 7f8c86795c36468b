/-! ===== the pure layer: what a law comes to ===== -/
def jn (c a b : Int32) : Int32 := if c = -9 then (if a = 0 then (if b = 0 then 0 else 1) else 1) else if c = -10 then (if a = 0 then 0 else if b = 0 then 0 else 1) else if c = -11 then (if b ≤ a then 0 else 1) else if c = -12 then (if a = b then 1 else 0) else if c = -13 then a + b else if c = -14 then a - b else a * b
def stv (c : Int32) (nm s : Nat → Int32) (n : Nat) : (Nat → Int32) × Nat :=
  if -6 ≤ c.toInt then (up s n (if 0 ≤ c.toInt then c else nm (tn (-1 - c))), n + 1)
  else if c = -7 then (up s (n - 1) (-(s (n - 1))), n)
  else if c = -8 then (up s (n - 1) (if s (n - 1) = 0 then 1 else 0), n)
  else (up s (n - 2) (jn c (s (n - 2)) (s (n - 1))), n - 1)
def evs (f nm : Nat → Int32) : Nat → Nat → (Nat → Int32) → Nat → (Nat → Int32)
  | 0, _, s, _ => s
  | d + 1, k, s, n => evs f nm d (k + 1) (stv (f k) nm s n).1 (stv (f k) nm s n).2
def evl (f nm : Nat → Int32) (i j : Nat) : Int32 := evs f nm (j - i) i (fun _ => 0) 0 0
theorem bin7 {c : Int32} (h : bw c (-15) (-9)) : c = -9 ∨ c = -10 ∨ c = -11 ∨ c = -12 ∨ c = -13 ∨ c = -14 ∨ c = -15 := by
  unfold bw at h
  have q : c.toInt = -9 ∨ c.toInt = -10 ∨ c.toInt = -11 ∨ c.toInt = -12 ∨ c.toInt = -13 ∨ c.toInt = -14 ∨ c.toInt = -15 := by omega
  rcases q with q | q | q | q | q | q | q
  · exact Or.inl (p_eq q)
  · exact Or.inr (Or.inl (p_eq q))
  · exact Or.inr (Or.inr (Or.inl (p_eq q)))
  · exact Or.inr (Or.inr (Or.inr (Or.inl (p_eq q))))
  · exact Or.inr (Or.inr (Or.inr (Or.inr (Or.inl (p_eq q)))))
  · exact Or.inr (Or.inr (Or.inr (Or.inr (Or.inr (Or.inl (p_eq q))))))
  · exact Or.inr (Or.inr (Or.inr (Or.inr (Or.inr (Or.inr (p_eq q))))))
theorem c_joined {N : Nat} {ρ : Rh} {I : Nat → Nat → Int32} {J : Nat → Nat → Int64} {c a b : Int32} (h : bw c (-15) (-9)) : f_X2_joined N ρ I J c a b = some (jn c a b) := by
  unfold f_X2_joined jn
  rcases bin7 h with c | c | c | c | c | c | c <;> subst c <;> simp <;> repeat' (first | rfl | split)
theorem m_two {N : Nat} {ρ : Rh} {I : Nat → Nat → Int32} {J : Nat → Nat → Int64} {c m a b : Int32} (h : bw c (-15) (-9)) (hm : cmR c m) : f_X12_two N ρ I J m a b = some (jn c a b) := by
  have e : (c = -9 ∧ m = 11) ∨ (c = -10 ∧ m = 12) ∨ (c = -11 ∧ m = 14) ∨ (c = -12 ∧ m = 15) ∨ (c = -13 ∧ m = 16) ∨ (c = -14 ∧ m = 17) ∨ (c = -15 ∧ m = 18) := by
    unfold cmR bw at hm
    rcases bin7 h with q | q | q | q | q | q | q <;> subst q <;> simp at hm
    · exact Or.inl ⟨rfl, p_eq hm⟩
    · exact Or.inr (Or.inl ⟨rfl, p_eq hm⟩)
    · exact Or.inr (Or.inr (Or.inl ⟨rfl, p_eq hm⟩))
    · exact Or.inr (Or.inr (Or.inr (Or.inl ⟨rfl, p_eq hm⟩)))
    · exact Or.inr (Or.inr (Or.inr (Or.inr (Or.inl ⟨rfl, p_eq hm⟩))))
    · exact Or.inr (Or.inr (Or.inr (Or.inr (Or.inr (Or.inl ⟨rfl, p_eq hm⟩)))))
    · exact Or.inr (Or.inr (Or.inr (Or.inr (Or.inr (Or.inr ⟨rfl, p_eq hm⟩)))))
  unfold f_X12_two jn
  rcases e with ⟨c, m⟩ | ⟨c, m⟩ | ⟨c, m⟩ | ⟨c, m⟩ | ⟨c, m⟩ | ⟨c, m⟩ | ⟨c, m⟩ <;> subst c <;> subst m <;> simp <;> repeat' (first | rfl | split)
theorem p_pred {n : Nat} (h : 1 ≤ n) (hn : n < 2147483648) : Int32.ofNat n - 1 = Int32.ofNat (n - 1) := by
  have e := p_nI hn
  refine p_eq ?_
  rw [p_sub (b := 1) (by show _ ≤ _ - (1 : Int); omega) (by show _ - (1 : Int) < _; omega), e, p_nI (by omega)]
  show (n : Int) - 1 = _
  omega
theorem p_pred' {n : Nat} (h : 1 ≤ n) (hn : n < 2147483648) : Int32.ofNat n + -1 = Int32.ofNat (n - 1) := by
  have e := p_nI hn
  refine p_eq ?_
  rw [p_add (b := -1) (by show _ ≤ _ + (-1 : Int); omega) (by show _ + (-1 : Int) < _; omega), e, p_nI (by omega)]
  show (n : Int) + -1 = _
  omega
theorem nm_ix {c : Int32} (h : -6 ≤ c.toInt) (h0 : c.toInt < 0) : ¬ ((-1 - c) < 0 ∨ 6 ≤ tn (-1 - c)) ∧ tn (-1 - c) < 6 := by
  have q : c.toInt = -1 ∨ c.toInt = -2 ∨ c.toInt = -3 ∨ c.toInt = -4 ∨ c.toInt = -5 ∨ c.toInt = -6 := by omega
  rcases q with q | q | q | q | q | q
  · rw [show c = -1 from p_eq q]; decide
  · rw [show c = -2 from p_eq q]; decide
  · rw [show c = -3 from p_eq q]; decide
  · rw [show c = -4 from p_eq q]; decide
  · rw [show c = -5 from p_eq q]; decide
  · rw [show c = -6 from p_eq q]; decide
theorem dp_three {c : Int32} {d e : Nat} (h : dpR c d e) : (-6 ≤ c.toInt ∧ e = d + 1) ∨ (c = -7 ∧ 1 ≤ d ∧ e = d) ∨ (c = -8 ∧ 1 ≤ d ∧ e = d) ∨ (bw c (-15) (-9) ∧ 2 ≤ d ∧ e + 1 = d) := by
  rcases h with h | ⟨h, h2⟩ | h
  · exact Or.inl h
  · unfold bw at h
    by_cases h7 : c.toInt = -7
    · exact Or.inr (Or.inl ⟨p_eq h7, h2⟩)
    · exact Or.inr (Or.inr (Or.inl ⟨p_eq (by show _ = (-8 : Int); omega), h2⟩))
  · exact Or.inr (Or.inr (Or.inr h))
theorem stv_op {c : Int32} {nm s : Nat → Int32} {n : Nat} (h : -6 ≤ c.toInt) : stv c nm s n = (up s n (if 0 ≤ c.toInt then c else nm (tn (-1 - c))), n + 1) := by unfold stv; rw [if_pos h]
theorem stv_7 {nm s : Nat → Int32} {n : Nat} : stv (-7) nm s n = (up s (n - 1) (-(s (n - 1))), n) := by unfold stv; rw [if_neg (by decide), if_pos rfl]
theorem stv_8 {nm s : Nat → Int32} {n : Nat} : stv (-8) nm s n = (up s (n - 1) (if s (n - 1) = 0 then 1 else 0), n) := by unfold stv; rw [if_neg (by decide), if_neg (by decide), if_pos rfl]
theorem stv_b {c : Int32} {nm s : Nat → Int32} {n : Nat} (h : bw c (-15) (-9)) : stv c nm s n = (up s (n - 2) (jn c (s (n - 2)) (s (n - 1))), n - 1) := by
  unfold stv
  have h' := h
  unfold bw at h'
  rw [if_neg (by omega), if_neg (fun z => by rw [z] at h'; exact absurd h'.2 (by decide)), if_neg (fun z => by rw [z] at h'; exact absurd h'.2 (by decide))]
theorem c_val {N : Nat} {ρ : Rh} {J : Nat → Nat → Int64} {a b L : Nat} {f nm : Nat → Int32} {p2 : Int32} {i j : Nat} {D : Nat → Nat} (ka : ρ.2.1 a = (0, 2)) (rb : ρ.1 a 1 = some b) (kb : ρ.2.1 b = (1, L)) (b80 : b ≠ 80) (hp2 : p2 = Int32.ofNat j) (hjL : j ≤ L) (hL : L < 160) (hD : ∀ k, i ≤ k → k < j → dpR (f k) (D k) (D (k + 1))) : ∀ (d k fuel : Nat) (I : Nat → Nat → Int32) (s : Nat → Int32), k + d = j → i ≤ k → d < fuel → D k ≤ k → (∀ q, I b q = f q) → (∀ q, q < 6 → I 79 q = nm q) → (∀ q, q < D k → I 80 q = s q) → ∃ I', f_X2_value_6 N J ρ a p2 fuel I (Int32.ofNat (D k)) (Int32.ofNat k) = some (Sum.inr (I', Int32.ofNat (D j))) ∧ (∀ x q, ¬ x = 80 → I' x q = I x q) ∧ (∀ q, q < D j → I' 80 q = evs f nm d k s (D k) q)
  | 0, k, fuel + 1, I, s, z1, z2, z3, z4, hI, hN, hS => by
    have e : k = j := by omega
    subst e
    refine ⟨I, ?_, fun _ _ _ => rfl, hS⟩
    rw [f_X2_value_6.eq_2, if_pos (by rw [hp2]; exact (p_ge (by omega) (by omega)).mpr (by omega))]
  | d + 1, k, fuel + 1, I, s, z1, z2, z3, z4, hI, hN, hS => by
    have hd := hD k z2 (by omega)
    have xk := p_ixn (k := k) (n := L) (by omega) (by omega)
    have xk' := xk
    rw [p_tnI (by omega)] at xk'
    rcases dp_three hd with ⟨hc1, hc2⟩ | ⟨hc1, hc2, hc3⟩ | ⟨hc1, hc2, hc3⟩ | ⟨hc1, hc2, hc3⟩
    · obtain ⟨v, hv⟩ : ∃ v, v = if 0 ≤ (f k).toInt then f k else nm (tn (-1 - f k)) := ⟨_, rfl⟩
      have hstep : f_X2_value_6 N J ρ a p2 (fuel + 1) I (Int32.ofNat (D k)) (Int32.ofNat k) = f_X2_value_6 N J ρ a p2 fuel (u2 I 80 (D k) v) (Int32.ofNat (D (k + 1))) (Int32.ofNat (k + 1)) := by
        rw [f_X2_value_6.eq_2, if_neg (by rw [hp2]; exact fun z => absurd ((p_ge (by omega) (by omega)).mp z) (by omega)), if_pos ka, rb]
        simp only [Option.bind_some, kb]
        rw [if_pos trivial, if_neg (fun z => absurd ((p_ge (by omega) (by omega)).mp z) (by omega)), if_pos trivial, p_tnI (by omega), if_pos xk', hI k]
        rw [if_neg (by rw [fa_lt]; show ¬ _ < (-6 : Int); omega), if_pos (by rw [fa_lt, p_nI (by omega)]; show _ < (160 : Int); omega)]
        have hj : (if f k < 0 then (if ¬ ((-1 - f k) < 0 ∨ 6 ≤ tn (-1 - f k)) then some (I 79 (tn (-1 - f k))) else none) else some (f k)) = some v := by
          rw [hv]
          by_cases h0 : 0 ≤ (f k).toInt
          · rw [if_neg (by rw [fa_lt]; show ¬ _ < (0 : Int); omega), if_pos h0]
          · have nx := nm_ix hc1 (Int.not_le.mp h0)
            rw [if_pos (by rw [fa_lt]; exact Int.not_le.mp h0), if_pos nx.1, if_neg h0, hN _ nx.2]
        rw [hj]
        simp only [Option.bind_some]
        rw [if_pos (p_ixn (by omega) (by omega)), p_tnI (by omega), p_succ (by omega), p_succ (by omega), hc2]
      obtain ⟨I', g1, g2, g3⟩ := c_val (N := N) (J := J) (D := D) (f := f) (nm := nm) (i := i) ka rb kb b80 hp2 hjL hL hD d (k + 1) fuel (u2 I 80 (D k) (v)) (up s (D k) (v)) (by omega) (by omega) (by omega) (by omega) (fun q => (u2_fr (by omega)).trans (hI q)) (fun q hq => (u2_fr (by omega)).trans (hN q hq)) (fun q hq => by
        rw [u2_ap, if_pos rfl, up_ap]
        by_cases hqq : q = D k
        · rw [if_pos hqq, if_pos hqq]
        · rw [if_neg hqq, if_neg hqq]; exact hS q (by omega))
      refine ⟨I', hstep.trans g1, fun x q hx => (g2 x q hx).trans (u2_fr (by omega)), fun q hq => ?_⟩
      rw [g3 q hq]
      show _ = evs f nm d (k + 1) (stv (f k) nm s (D k)).1 (stv (f k) nm s (D k)).2 q
      rw [stv_op hc1, ← hv, hc2]
    · have hstep : f_X2_value_6 N J ρ a p2 (fuel + 1) I (Int32.ofNat (D k)) (Int32.ofNat k) = f_X2_value_6 N J ρ a p2 fuel (u2 I 80 (D k - 1) (-(s (D k - 1)))) (Int32.ofNat (D (k + 1))) (Int32.ofNat (k + 1)) := by
        rw [f_X2_value_6.eq_2, if_neg (by rw [hp2]; exact fun z => absurd ((p_ge (by omega) (by omega)).mp z) (by omega)), if_pos ka, rb]
        simp only [Option.bind_some, kb]
        rw [if_pos trivial, if_neg (fun z => absurd ((p_ge (by omega) (by omega)).mp z) (by omega)), if_pos trivial, p_tnI (by omega), if_pos xk', hI k]
        rw [hc1, if_pos (by decide), if_pos rfl, if_pos (by rw [fa_le, p_nI (by omega)]; show (1 : Int) ≤ _; omega), p_pred hc2 (by omega), if_pos (p_ixn (by omega) (by omega)), p_tnI (by omega), hS _ (by omega)]
        have xq := p_ixn (k := D k - 1) (n := 160) (by omega) (by omega)
        rw [p_tnI (by omega)] at xq
        unfold f_X2_alone
        rw [if_pos rfl]
        simp only [Option.bind_some]
        rw [if_pos xq, p_succ (by omega), hc3]
      obtain ⟨I', g1, g2, g3⟩ := c_val (N := N) (J := J) (D := D) (f := f) (nm := nm) (i := i) ka rb kb b80 hp2 hjL hL hD d (k + 1) fuel (u2 I 80 (D k - 1) (-(s (D k - 1)))) (up s (D k - 1) (-(s (D k - 1)))) (by omega) (by omega) (by omega) (by omega) (fun q => (u2_fr (by omega)).trans (hI q)) (fun q hq => (u2_fr (by omega)).trans (hN q hq)) (fun q hq => by
        rw [u2_ap, if_pos rfl, up_ap]
        by_cases hqq : q = D k - 1
        · rw [if_pos hqq, if_pos hqq]
        · rw [if_neg hqq, if_neg hqq]; exact hS q (by omega))
      refine ⟨I', hstep.trans g1, fun x q hx => (g2 x q hx).trans (u2_fr (by omega)), fun q hq => ?_⟩
      rw [g3 q hq]
      show _ = evs f nm d (k + 1) (stv (f k) nm s (D k)).1 (stv (f k) nm s (D k)).2 q
      rw [hc1, stv_7, hc3]
    · have hstep : f_X2_value_6 N J ρ a p2 (fuel + 1) I (Int32.ofNat (D k)) (Int32.ofNat k) = f_X2_value_6 N J ρ a p2 fuel (u2 I 80 (D k - 1) (if s (D k - 1) = 0 then 1 else 0)) (Int32.ofNat (D (k + 1))) (Int32.ofNat (k + 1)) := by
        rw [f_X2_value_6.eq_2, if_neg (by rw [hp2]; exact fun z => absurd ((p_ge (by omega) (by omega)).mp z) (by omega)), if_pos ka, rb]
        simp only [Option.bind_some, kb]
        rw [if_pos trivial, if_neg (fun z => absurd ((p_ge (by omega) (by omega)).mp z) (by omega)), if_pos trivial, p_tnI (by omega), if_pos xk', hI k]
        rw [hc1, if_pos (by decide), if_neg (by decide), if_pos rfl, if_pos (by rw [fa_le, p_nI (by omega)]; show (1 : Int) ≤ _; omega), p_pred hc2 (by omega), if_pos (p_ixn (by omega) (by omega)), p_tnI (by omega), hS _ (by omega)]
        have xq := p_ixn (k := D k - 1) (n := 160) (by omega) (by omega)
        rw [p_tnI (by omega)] at xq
        have ea : f_X2_alone N ρ I J (-8) (s (D k - 1)) = some (if s (D k - 1) = 0 then 1 else 0) := by
          unfold f_X2_alone
          rw [if_neg (by decide)]
          split <;> rfl
        rw [ea]
        simp only [Option.bind_some]
        rw [if_pos xq, p_succ (by omega), hc3]
      obtain ⟨I', g1, g2, g3⟩ := c_val (N := N) (J := J) (D := D) (f := f) (nm := nm) (i := i) ka rb kb b80 hp2 hjL hL hD d (k + 1) fuel (u2 I 80 (D k - 1) (if s (D k - 1) = 0 then 1 else 0)) (up s (D k - 1) (if s (D k - 1) = 0 then 1 else 0)) (by omega) (by omega) (by omega) (by omega) (fun q => (u2_fr (by omega)).trans (hI q)) (fun q hq => (u2_fr (by omega)).trans (hN q hq)) (fun q hq => by
        rw [u2_ap, if_pos rfl, up_ap]
        by_cases hqq : q = D k - 1
        · rw [if_pos hqq, if_pos hqq]
        · rw [if_neg hqq, if_neg hqq]; exact hS q (by omega))
      refine ⟨I', hstep.trans g1, fun x q hx => (g2 x q hx).trans (u2_fr (by omega)), fun q hq => ?_⟩
      rw [g3 q hq]
      show _ = evs f nm d (k + 1) (stv (f k) nm s (D k)).1 (stv (f k) nm s (D k)).2 q
      rw [hc1, stv_8, hc3]
    · have hb := hc1
      unfold bw at hb
      have hstep : f_X2_value_6 N J ρ a p2 (fuel + 1) I (Int32.ofNat (D k)) (Int32.ofNat k) = f_X2_value_6 N J ρ a p2 fuel (u2 I 80 (D k - 2) (jn (f k) (s (D k - 2)) (s (D k - 1)))) (Int32.ofNat (D (k + 1))) (Int32.ofNat (k + 1)) := by
        rw [f_X2_value_6.eq_2, if_neg (by rw [hp2]; exact fun z => absurd ((p_ge (by omega) (by omega)).mp z) (by omega)), if_pos ka, rb]
        simp only [Option.bind_some, kb]
        rw [if_pos trivial, if_neg (fun z => absurd ((p_ge (by omega) (by omega)).mp z) (by omega)), if_pos trivial, p_tnI (by omega), if_pos xk', hI k]
        rw [if_pos (by rw [fa_lt]; show _ < (-6 : Int); omega), if_neg (fun z => by rw [z] at hb; exact absurd hb.2 (by decide)), if_neg (fun z => by rw [z] at hb; exact absurd hb.2 (by decide)), if_pos (by rw [fa_le, p_nI (by omega)]; show (2 : Int) ≤ _; omega), p_pred' (by omega) (by omega), p_pred (by omega) (by omega)]
        have xq := p_ixn (k := D k - 1 - 1) (n := 160) (by omega) (by omega)
        have xr := p_ixn (k := D k - 1) (n := 160) (by omega) (by omega)
        rw [p_tnI (by omega)] at xq xr
        rw [p_tnI (by omega), p_tnI (by omega), if_pos xq, if_pos xr, hS _ (by omega), hS _ (by omega), c_joined hc1]
        simp only [Option.bind_some]
        rw [if_pos xq, p_succ (by omega), show D (k + 1) = D k - 1 by omega, show D k - 1 - 1 = D k - 2 by omega]
      obtain ⟨I', g1, g2, g3⟩ := c_val (N := N) (J := J) (D := D) (f := f) (nm := nm) (i := i) ka rb kb b80 hp2 hjL hL hD d (k + 1) fuel (u2 I 80 (D k - 2) (jn (f k) (s (D k - 2)) (s (D k - 1)))) (up s (D k - 2) (jn (f k) (s (D k - 2)) (s (D k - 1)))) (by omega) (by omega) (by omega) (by omega) (fun q => (u2_fr (by omega)).trans (hI q)) (fun q hq => (u2_fr (by omega)).trans (hN q hq)) (fun q hq => by
        rw [u2_ap, if_pos rfl, up_ap]
        by_cases hqq : q = D k - 2
        · rw [if_pos hqq, if_pos hqq]
        · rw [if_neg hqq, if_neg hqq]; exact hS q (by omega))
      refine ⟨I', hstep.trans g1, fun x q hx => (g2 x q hx).trans (u2_fr (by omega)), fun q hq => ?_⟩
      rw [g3 q hq]
      show _ = evs f nm d (k + 1) (stv (f k) nm s (D k)).1 (stv (f k) nm s (D k)).2 q
      rw [stv_b hc1, show D k - 1 = D (k + 1) by omega]
