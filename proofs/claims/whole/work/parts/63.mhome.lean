/-! ===== the pure layer: the model's homes ===== -/
theorem m_below {N : Nat} (hN : 200 ≤ N) {ρ : Rh} {X : Nat → Nat → Int32} {J : Nat → Nat → Int64} {D : Nat} (hD : D ≤ 12) (h3 : X 89 3 = Int32.ofNat D) : f_X12_below N ρ X J = some (Int64.ofNat (10 ^ D)) := by
  have loop : ∀ (e d fuel : Nat), d + e = D → e < fuel → f_X12_below_4 N X J ρ fuel (Int64.ofNat (10 ^ d)) (Int32.ofNat d) = some (Int64.ofNat (10 ^ D)) := by
    intro e
    induction e with
    | zero =>
      intro d fuel z1 z2
      cases fuel with
      | zero => omega
      | succ fuel => rw [f_X12_below_4.eq_2, h3, if_pos ((p_ge (by omega) (by omega)).mpr (by omega)), show d = D by omega]
    | succ e ih =>
      intro d fuel z1 z2
      cases fuel with
      | zero => omega
      | succ fuel =>
        have p1 := pow12 (n := d) (by omega)
        have p2 := pow12 (n := d + 1) (by omega)
        have e1 : Int64.ofNat (10 ^ d) * 10 = Int64.ofNat (10 ^ (d + 1)) := by
          rw [Nat.pow_succ] at p2 ⊢
          obtain ⟨p, hp⟩ : ∃ p, p = 10 ^ d := ⟨_, rfl⟩
          rw [← hp] at p1 p2 ⊢
          have t1 := q_nL (n := p) (by omega)
          have t2 : (10 : Int64).toInt = 10 := rfl
          refine q_of (by omega) ?_
          rw [q_mul (by rw [t1, t2]; omega) (by rw [t1, t2]; omega), t1, t2]
          omega
        rw [f_X12_below_4.eq_2, h3, if_neg (fun z => absurd ((p_ge (by omega) (by omega)).mp z) (by omega)), e1, p_succ (by omega)]
        exact ih (d + 1) fuel (by omega) (by omega)
  unfold f_X12_below
  have := loop D 0 N (by omega) (by omega)
  rw [show Int32.ofNat 0 = (0 : Int32) from rfl, show Int64.ofNat (10 ^ 0) = (1 : Int64) from rfl] at this
  rw [this]
  rfl
theorem p_lt {n m : Nat} (hn : n < 2147483648) (hm : m < 2147483648) : (Int32.ofNat n < Int32.ofNat m) ↔ n < m := by
  rw [fa_lt, p_nI hn, p_nI hm]; omega
theorem neg1_ne {n : Nat} (h : n < 2147483648) : ¬ Int32.ofNat n = -1 := by
  intro z
  have := congrArg Int32.toInt z
  rw [p_nI h] at this
  have e : (-1 : Int32).toInt = -1 := rfl
  omega
theorem m_homeOf {N : Nat} (hN : 200 ≤ N) {ρ : Rh} {X : Nat → Nat → Int32} {J : Nat → Nat → Int64} {P : VP} {V : VS} {D m : Nat} {ch : Nat → Nat} (hD1 : 1 ≤ D) (hD : D ≤ 12) (hV : V.2.2.2.1 = -1) (h3 : X 89 3 = Int32.ofNat D) (hc : ∀ d, ch d ≤ 9) (h92 : ∀ q, q < 12 → X 92 q = Int32.ofNat (ch q)) (hA : mAll P 0 D V X) (hm : m < vmn P) (h8 : vmn P ≤ 8) : f_X12_homeOf N ρ X J (Int32.ofNat m) = some (Int64.ofNat (HM D ch P V D m)) := by
  obtain ⟨x1, x2, x3⟩ := hA
  have hB := m_below hN (ρ := ρ) (J := J) hD h3
  have hS1 : 1 ≤ vS P V D := by rcases vLd_two (P := P) hD hV with h | ⟨L, h⟩ <;> omega
  have hSD := vS_le (P := P) hD hV
  have pD := pow12 hD
  have st : ∀ d, d ≤ D → X 100 (8 * d + m) = (trj P d 0 V).1 m := fun d hd => by
    have := (x1 d hd).1 m hm
    rw [Nat.zero_add] at this
    exact this
  have loop : ∀ (e d fuel : Nat), d + e = vS P V D → e < fuel → f_X12_homeOf_34 N X J ρ (Int32.ofNat m) (Int32.ofNat (vS P V D - 1)) fuel (Int64.ofNat (opn D ch d)) (Int64.ofNat (hom D ch (val P V m) d)) (Int32.ofNat d) = some (Int64.ofNat (opn D ch (vS P V D)), Int64.ofNat (hom D ch (val P V m) (vS P V D))) := by
    intro e
    induction e with
    | zero =>
      intro d fuel z1 z2
      cases fuel with
      | zero => omega
      | succ fuel =>
        have : d = vS P V D := by omega
        subst this
        rw [f_X12_homeOf_34.eq_2, if_pos ((p_lt (by omega) (by omega)).mpr (by omega))]
    | succ e ih =>
      intro d fuel z1 z2
      cases fuel with
      | zero => omega
      | succ fuel =>
        obtain ⟨y1, y2⟩ := day_long (n := D) (ch := ch) (d := d) (c := X 92 d) hD (by omega) (fun d _ => hc d) (h92 d (by omega))
        have b1 := hom_le (n := D) (ch := ch) (al := val P V m) (fun d _ => hc d) (d := d) (by omega)
        have b2 := opn_s (n := D) (ch := ch) (d := d) (by omega) (hc d)
        have e1 : hom D ch (val P V m) (d + 1) = hom D ch (val P V m) d + (if val P V m d = true then cms D ch d else 0) := rfl
        have hv : val P V m d = if X 100 (8 * d + m) ≤ 0 then false else true := by unfold val; rw [st d (by omega)]
        have x := p_ixn (k := 8 * d + m) (n := 104) (by omega) (by omega)
        rw [p_tnI (by omega)] at x
        rw [f_X12_homeOf_34.eq_2, if_neg (fun z => absurd ((p_lt (by omega) (by omega)).mp z) (by omega)), if_pos (p_ixn (by omega) (by omega)), p_lin8 (by omega), p_tnI (by omega), p_tnI (by omega)]
        simp only [bnd]
        rw [y1, if_pos x, y2, p_succ (by omega)]
        by_cases h0 : X 100 (8 * d + m) ≤ 0
        · rw [if_pos h0] at hv
          have e1' : hom D ch (val P V m) (d + 1) = hom D ch (val P V m) d := by rw [e1, hv]; rfl
          rw [if_pos h0]
          simp only [Option.bind_some]
          rw [Int64.add_zero, ← e1']
          exact ih (d + 1) fuel (by omega) (by omega)
        · rw [if_neg h0] at hv
          rw [hv, if_pos rfl] at e1
          rw [if_neg h0]
          simp only [Option.bind_some]
          have t1 : (Int64.ofNat (hom D ch (val P V m) d)).toInt = hom D ch (val P V m) d := q_nL (by omega)
          have t2 : (Int64.ofNat (cms D ch d)).toInt = cms D ch d := q_nL (by omega)
          have e2 : Int64.ofNat (hom D ch (val P V m) d) + Int64.ofNat (cms D ch d) = Int64.ofNat (hom D ch (val P V m) (d + 1)) := by
            refine q_of (by omega) ?_
            rw [q_add (by omega) (by omega), t1, t2, e1]
            omega
          rw [e2]
          exact ih (d + 1) fuel (by omega) (by omega)
  have L0 := loop (vS P V D) 0 N (by omega) (by omega)
  rw [show Int32.ofNat 0 = (0 : Int32) from rfl, opn_0, show Int64.ofNat (hom D ch (val P V m) 0) = (0 : Int64) from rfl] at L0
  unfold f_X12_homeOf
  rw [hB]
  simp only [Option.bind_some]
  have b1 := hom_le (n := D) (ch := ch) (al := val P V m) (fun d _ => hc d) (d := vS P V D) hSD
  have hX23 : X 89 23 = vLd P V D := x3
  rw [hX23]
  rcases vLd_two (P := P) hD hV with ⟨y1, y2, y3⟩ | ⟨L, y1, y2, y3, y4⟩
  · rw [if_pos y1, h3, p_pred hD1 (by omega), show D - 1 = vS P V D - 1 by omega]
    simp only [Option.bind_some]
    rw [L0]
    simp only [Option.bind_some]
    rw [if_pos y1]
    unfold HM homeN
    rw [y3, if_neg (by decide), Nat.add_zero]
  · have hne : ¬ vLd P V D = -1 := by rw [y2]; exact neg1_ne (by omega)
    have x := p_ixn (k := 8 * L + 8 + m) (n := 104) (by omega) (by omega)
    rw [p_tnI (by omega)] at x
    have hs := st (vS P V D) hSD
    rw [y3, show 8 * (L + 1) + m = 8 * L + 8 + m by omega] at hs
    rw [if_neg hne]
    simp only [Option.bind_some]
    rw [y2, show Int32.ofNat L = Int32.ofNat (vS P V D - 1) from by rw [y3, Nat.add_sub_cancel], L0]
    simp only [Option.bind_some]
    rw [show Int32.ofNat (vS P V D - 1) = Int32.ofNat L from by rw [y3, Nat.add_sub_cancel], if_neg (neg1_ne (by omega)), p_lin8b (by omega), p_tnI (by omega), if_pos x, hs]
    unfold HM homeN
    rw [y4, if_pos rfl]
    have hv : val P V m (vS P V D) = if (trj P (L + 1) 0 V).1 m ≤ 0 then false else true := by unfold val; rw [y3]
    by_cases h0 : (trj P (L + 1) 0 V).1 m ≤ 0
    · rw [if_pos h0] at hv
      rw [if_pos h0, hv, if_neg (by decide), Nat.add_zero]
    · rw [if_neg h0] at hv
      rw [if_neg h0, hv, if_pos rfl]
      have t1 : (Int64.ofNat (hom D ch (val P V m) (vS P V D))).toInt = hom D ch (val P V m) (vS P V D) := q_nL (by omega)
      have t2 : (Int64.ofNat (opn D ch (vS P V D))).toInt = opn D ch (vS P V D) := q_nL (by omega)
      congr 1
      refine q_of (by omega) ?_
      rw [q_add (by omega) (by omega), t1, t2]
      omega
