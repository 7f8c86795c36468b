/-! ===== the pure layer: the law's loop ===== -/
def txtOk : Prop := ∀ (N : Nat) (ρ : Rh) (I : Nat → Nat → Int32) (J : Nat → Nat → Int64), 1000 ≤ N → Inv ρ I J → ∃ I1 J1 ρ1 v I2, f_X11_text N ρ I J = some (I1, J1, ρ1, v) ∧ f_X12_text N ρ1 I1 J1 = some (I2, v) ∧ Inv ρ1 I2 J1
theorem law_run (hT : txtOk) {N L : Nat} {X : Nat → Int32} (hN : 1000 ≤ N) (hL : L ≤ 3072) : ∀ (e k fuel : Nat) (ρ : Rh) (I : Nat → Nat → Int32) (J : Nat → Nat → Int64), L < 6 * (k + e) + 6 → k ≤ 600 → e < fuel → Inv ρ I J → ∃ o, f_L_law_18 N L X fuel I J ρ (Int32.ofNat (6 * k)) = some (Sum.inr o) := by
  intro e
  induction e with
  | zero =>
    intro k fuel ρ I J z1 zk z2 hI
    cases fuel with
    | zero => omega
    | succ fuel =>
      have eL : (Int32.ofNat L - 6).toInt = (L : Int) - 6 := by
        have t := p_nI (n := L) (by omega)
        rw [p_sub (b := 6) (by rw [t]; show _ ≤ _ - (6 : Int); omega) (by rw [t]; show _ - (6 : Int) < _; omega), t]; rfl
      refine ⟨(I, J, ρ), ?_⟩
      rw [f_L_law_18.eq_2, if_pos (by rw [fa_lt, eL, p_nI (by omega)]; omega)]
  | succ e ih =>
    intro k fuel ρ I J z1 zk z2 hI
    cases fuel with
    | zero => omega
    | succ fuel =>
      have eL : (Int32.ofNat L - 6).toInt = (L : Int) - 6 := by
        have t := p_nI (n := L) (by omega)
        rw [p_sub (b := 6) (by rw [t]; show _ ≤ _ - (6 : Int); omega) (by rw [t]; show _ - (6 : Int) < _; omega), t]; rfl
      by_cases hend : L < 6 * k + 6
      · refine ⟨(I, J, ρ), ?_⟩
        rw [f_L_law_18.eq_2, if_pos (by rw [fa_lt, eL, p_nI (by omega)]; omega)]
      · have hnot : ¬ (Int32.ofNat L - 6 < Int32.ofNat (6 * k)) := by rw [fa_lt, eL, p_nI (by omega)]; omega
        have ad : ∀ c : Nat, c ≤ 6 → Int32.ofNat (6 * k) + Int32.ofNat c = Int32.ofNat (6 * k + c) := by
          intro c hc
          refine p_eq ?_
          rw [p_add (by rw [p_nI (by omega), p_nI (by omega)]; omega) (by rw [p_nI (by omega), p_nI (by omega)]; omega), p_nI (by omega), p_nI (by omega), p_nI (by omega)]
          omega
        have a1 : Int32.ofNat (6 * k) + 1 = Int32.ofNat (6 * k + 1) := ad 1 (by decide)
        have a2 : Int32.ofNat (6 * k) + 2 = Int32.ofNat (6 * k + 2) := ad 2 (by decide)
        have a3 : Int32.ofNat (6 * k) + 3 = Int32.ofNat (6 * k + 3) := ad 3 (by decide)
        have a4 : Int32.ofNat (6 * k) + 4 = Int32.ofNat (6 * k + 4) := ad 4 (by decide)
        have a5 : Int32.ofNat (6 * k) + 5 = Int32.ofNat (6 * k + 5) := ad 5 (by decide)
        have a6 : Int32.ofNat (6 * k) + 6 = Int32.ofNat (6 * (k + 1)) := (ad 6 (by decide)).trans (by rw [Nat.mul_add])
        have tt : ∀ c, c ≤ 5 → tn (Int32.ofNat (6 * k + c)) = 6 * k + c := fun c hc => p_tnI (by omega)
        have xx : ∀ c, c ≤ 5 → ¬ (Int32.ofNat (6 * k + c) < 0 ∨ L ≤ 6 * k + c) := fun c hc => by
          have := p_ixn (k := 6 * k + c) (n := L) (by omega) (by omega)
          rw [p_tnI (by omega)] at this
          exact this
        have t0 : tn (Int32.ofNat (6 * k)) = 6 * k := tt 0 (by decide)
        have t1 := tt 1 (by decide)
        have t2 := tt 2 (by decide)
        have t3 := tt 3 (by decide)
        have t4 := tt 4 (by decide)
        have t5 := tt 5 (by decide)
        have x0 : ¬ (Int32.ofNat (6 * k) < 0 ∨ L ≤ 6 * k) := xx 0 (by decide)
        have x1 := xx 1 (by decide)
        have x2 := xx 2 (by decide)
        have x3 := xx 3 (by decide)
        have x4 := xx 4 (by decide)
        have x5 := xx 5 (by decide)
        have go : ∀ (ρ' : Rh) (I' : Nat → Nat → Int32) (J' : Nat → Nat → Int64), Inv ρ' I' J' → ∃ o, f_L_law_18 N L X fuel I' J' ρ' (Int32.ofNat (6 * (k + 1))) = some (Sum.inr o) := fun ρ' I' J' h => ih (k + 1) fuel ρ' I' J' (by omega) (by omega) (by omega) h
        rw [f_L_law_18.eq_2, if_neg hnot]
        simp only [a1, a2, a3, a4, a5, a6, t0, t1, t2, t3, t4, t5]
        rw [if_pos x0]
        generalize X (6 * k) &&& 31 = op
        by_cases c0 : op = 0
        · obtain ⟨I1, v, I2, h1, h2, h3, _⟩ := op_man N hI (X (6 * k + 1)) (X (6 * k + 2))
          rw [if_pos c0, if_pos x1, if_pos x2, h1]
          simp only [Option.bind_some]
          rw [if_pos x1, if_pos x2, h2]
          simp only [Option.bind_some]
          rw [if_pos trivial]
          exact go ρ I2 J h3
        rw [if_neg c0]
        by_cases c1 : op = 1
        · obtain ⟨I1, v, I2, h1, h2, h3⟩ := op_set N hI (X (6 * k + 1)) (X (6 * k + 2)) (X (6 * k + 3))
          rw [if_pos c1, if_pos x1, if_pos x2, if_pos x3, h1]
          simp only [Option.bind_some]
          rw [if_pos x1, if_pos x2, if_pos x3, h2]
          simp only [Option.bind_some]
          rw [if_pos trivial]
          exact go ρ I2 J h3
        rw [if_neg c1]
        by_cases c2 : op = 2
        · obtain ⟨I1, v, I2, h1, h2, h3⟩ := op_boat N hI (X (6 * k + 1)) (X (6 * k + 2))
          rw [if_pos c2, if_pos x1, if_pos x2, h1]
          simp only [Option.bind_some]
          rw [if_pos x1, if_pos x2, h2]
          simp only [Option.bind_some]
          rw [if_pos trivial]
          exact go ρ I2 J h3
        rw [if_neg c2]
        by_cases c3 : op = 3
        · obtain ⟨I1, v, I2, h1, h2, h3⟩ := op_day N hI (X (6 * k + 1)) (X (6 * k + 2)) (X (6 * k + 3))
          rw [if_pos c3, if_pos x1, if_pos x2, if_pos x3, h1]
          simp only [Option.bind_some]
          rw [if_pos x1, if_pos x2, if_pos x3, h2]
          simp only [Option.bind_some]
          rw [if_pos trivial]
          exact go ρ I2 J h3
        rw [if_neg c3]
        by_cases c4 : op = 4
        · obtain ⟨v, h1, h2⟩ := op_boatTold N hI (X (6 * k + 1))
          rw [if_pos c4, if_pos x1, h1]
          simp only [Option.bind_some]
          rw [if_pos x1, h2]
          simp only [Option.bind_some]
          rw [if_pos trivial]
          exact go ρ I J hI
        rw [if_neg c4]
        by_cases c5 : op = 5
        · obtain ⟨I1, J1, ρ1, v, I2, h1, h2, h3⟩ := op_rule N hI (by omega) (X (6 * k + 1)) (X (6 * k + 2)) (X (6 * k + 3))
          rw [if_pos c5, if_pos x1, if_pos x2, if_pos x3, h1]
          simp only [Option.bind_some]
          rw [if_pos x1, if_pos x2, if_pos x3, h2]
          simp only [Option.bind_some]
          rw [if_pos trivial]
          exact go ρ1 I2 J1 h3
        rw [if_neg c5]
        by_cases c6 : op = 6
        · obtain ⟨v, h1, h2⟩ := op_ruleTold N hI (X (6 * k + 1)) (X (6 * k + 2))
          rw [if_pos c6, if_pos x1, if_pos x2, h1]
          simp only [Option.bind_some]
          rw [if_pos x1, if_pos x2, h2]
          simp only [Option.bind_some]
          rw [if_pos trivial]
          exact go ρ I J hI
        rw [if_neg c6]
        by_cases c7 : op = 7
        · obtain ⟨I1, v, I2, h1, h2, h3⟩ := op_feed N hI (by omega) ((((X (6 * k + 1)).toInt64) <<< ((32 : Int32).toInt64 &&& 63)) ||| (((X (6 * k + 2)).toInt64) &&& (4294967295 : Int64))) (X (6 * k + 3))
          rw [if_pos c7, if_pos x1, if_pos x2, if_pos x3, h1]
          simp only [Option.bind_some]
          rw [if_pos x1, if_pos x2, if_pos x3, h2]
          simp only [Option.bind_some]
          rw [if_pos trivial]
          exact go ρ I2 J h3
        rw [if_neg c7]
        by_cases c8 : op = 8
        · obtain ⟨I1, J1, ρ1, v, I2, h1, h2, h3⟩ := hT N ρ I J hN hI
          rw [if_pos c8, h1]
          simp only [Option.bind_some]
          rw [h2]
          simp only [Option.bind_some]
          rw [if_pos trivial]
          exact go ρ1 I2 J1 h3
        rw [if_neg c8]
        by_cases c9 : op = 9
        · obtain ⟨ρ1, v, I2, h1, h2, h3⟩ := op_force N hI (X (6 * k + 1))
          rw [if_pos c9, if_pos x1, h1]
          simp only [Option.bind_some]
          rw [if_pos x1, h2]
          simp only [Option.bind_some]
          rw [if_pos trivial]
          exact go ρ1 I2 J h3
        rw [if_neg c9]
        by_cases c10 : op = 10
        · obtain ⟨I1, J1, ρ1, v, I2, h1, h2, h3⟩ := op_home N hI (by omega) (X (6 * k + 1)) (X (6 * k + 2)) (X (6 * k + 3))
          rw [if_pos c10, if_pos x1, if_pos x2, if_pos x3, h1]
          simp only [Option.bind_some]
          rw [if_pos x1, if_pos x2, if_pos x3, h2]
          simp only [Option.bind_some]
          rw [if_pos trivial]
          exact go ρ1 I2 J1 h3
        rw [if_neg c10]
        by_cases c11 : op = 11
        · obtain ⟨I1, J1, ρ1, v, I2, h1, h2, h3⟩ := op_mean N hI (by omega) (X (6 * k + 1)) (X (6 * k + 2)) (X (6 * k + 3))
          rw [if_pos c11, if_pos x1, if_pos x2, if_pos x3, h1]
          simp only [Option.bind_some]
          rw [if_pos x1, if_pos x2, if_pos x3, h2]
          simp only [Option.bind_some]
          rw [if_pos trivial]
          exact go ρ1 I2 J1 h3
        rw [if_neg c11]
        by_cases c12 : op = 12
        · obtain ⟨I1, J1, ρ1, v, I2, h1, h2, h3⟩ := op_told N hI (by omega) (X (6 * k + 1)) (X (6 * k + 2)) (X (6 * k + 3)) (X (6 * k + 4))
          rw [if_pos c12, if_pos x1, if_pos x2, if_pos x3, if_pos x4, h1]
          simp only [Option.bind_some]
          rw [if_pos x1, if_pos x2, if_pos x3, if_pos x4, h2]
          simp only [Option.bind_some]
          rw [if_pos trivial]
          exact go ρ1 I2 J1 h3
        rw [if_neg c12]
        by_cases c13 : op = 13
        · obtain ⟨I1, J1, ρ1, v, I2, h1, h2, h3⟩ := op_ends N hI (by omega) (X (6 * k + 1)) (X (6 * k + 2))
          rw [if_pos c13, if_pos x1, if_pos x2, h1]
          simp only [Option.bind_some]
          rw [if_pos x1, if_pos x2, h2]
          simp only [Option.bind_some]
          rw [if_pos trivial]
          exact go ρ1 I2 J1 h3
        rw [if_neg c13]
        by_cases c14 : op = 14
        · obtain ⟨I1, J1, ρ1, v, I2, h1, h2, h3⟩ := op_best N hI (by omega) (X (6 * k + 1))
          rw [if_pos c14, if_pos x1, h1]
          simp only [Option.bind_some]
          rw [if_pos x1, h2]
          simp only [Option.bind_some]
          rw [if_pos trivial]
          exact go ρ1 I2 J1 h3
        rw [if_neg c14]
        by_cases c15 : op = 15
        · obtain ⟨I1, J1, ρ1, v, I2, h1, h2, h3⟩ := op_rations N hI (by omega) (X (6 * k + 1))
          rw [if_pos c15, if_pos x1, h1]
          simp only [Option.bind_some]
          rw [if_pos x1, h2]
          simp only [Option.bind_some]
          rw [if_pos trivial]
          exact go ρ1 I2 J1 h3
        rw [if_neg c15]
        by_cases c16 : op = 16
        · obtain ⟨I1, J1, ρ1, v, I2, J2, h1, h2, h3⟩ := op_take N hI (by omega) (X (6 * k + 1)) (X (6 * k + 2))
          rw [if_pos c16, if_pos x1, if_pos x2, h1]
          simp only [Option.bind_some]
          rw [if_pos x1, if_pos x2, h2]
          simp only [Option.bind_some]
          rw [if_pos trivial]
          exact go ρ1 I2 J2 h3
        rw [if_neg c16]
        by_cases c17 : op = 17
        · obtain ⟨I1, J1, ρ1, v, I2, J2, h1, h2, h3⟩ := op_takes N hI (by omega) (X (6 * k + 1))
          rw [if_pos c17, if_pos x1, h1]
          simp only [Option.bind_some]
          rw [if_pos x1, h2]
          simp only [Option.bind_some]
          rw [if_pos trivial]
          exact go ρ1 I2 J2 h3
        rw [if_neg c17]
        by_cases c18 : op = 18
        · obtain ⟨I1, J1, ρ1, v, I2, h1, h2, h3⟩ := op_hid N hI (by omega) (X (6 * k + 1)) (X (6 * k + 2)) (X (6 * k + 3)) (X (6 * k + 4))
          rw [if_pos c18, if_pos x1, if_pos x2, if_pos x3, if_pos x4, h1]
          simp only [Option.bind_some]
          rw [if_pos x1, if_pos x2, if_pos x3, if_pos x4, h2]
          simp only [Option.bind_some]
          rw [if_pos trivial]
          exact go ρ1 I2 J1 h3
        rw [if_neg c18]
        by_cases c19 : op = 19
        · obtain ⟨I1, J1, ρ1, v, I2, h1, h2, h3⟩ := op_judge N hI (by omega) (X (6 * k + 1)) (X (6 * k + 2)) (X (6 * k + 3))
          rw [if_pos c19, if_pos x1, if_pos x2, if_pos x3, h1]
          simp only [Option.bind_some]
          rw [if_pos x1, if_pos x2, if_pos x3, h2]
          simp only [Option.bind_some]
          rw [if_pos trivial]
          exact go ρ1 I2 J1 h3
        rw [if_neg c19]
        by_cases c20 : op = 20
        · obtain ⟨I1, J1, ρ1, v, I2, h1, h2, h3⟩ := op_until N hI (by omega) (X (6 * k + 1)) (X (6 * k + 2))
          rw [if_pos c20, if_pos x1, if_pos x2, h1]
          simp only [Option.bind_some]
          rw [if_pos x1, if_pos x2, h2]
          simp only [Option.bind_some]
          rw [if_pos trivial]
          exact go ρ1 I2 J1 h3
        rw [if_neg c20]
        by_cases c21 : op = 21
        · obtain ⟨I1, J1, ρ1, v, I2, h1, h2, h3⟩ := op_image N hI (by omega) 
          rw [if_pos c21, h1]
          simp only [Option.bind_some]
          rw [h2]
          simp only [Option.bind_some]
          rw [if_pos trivial]
          exact go ρ1 I2 J1 h3
        rw [if_neg c21]
        by_cases c22 : op = 22
        · obtain ⟨I1, ρ1, v, I2, h1, h2, h3⟩ := op_back N hI (by omega) 
          rw [if_pos c22, h1]
          simp only [Option.bind_some]
          rw [h2]
          simp only [Option.bind_some]
          rw [if_pos trivial]
          exact go ρ1 I2 J h3
        rw [if_neg c22]
        by_cases c23 : op = 23
        · obtain ⟨I1, v, I2, h1, h2, h3⟩ := op_sheet N hI (by omega) (X (6 * k + 1)) (X (6 * k + 2)) (X (6 * k + 3))
          rw [if_pos c23, if_pos x1, if_pos x2, if_pos x3, h1]
          simp only [Option.bind_some]
          rw [if_pos x1, if_pos x2, if_pos x3, h2]
          simp only [Option.bind_some]
          rw [if_pos trivial]
          exact go ρ I2 J h3
        rw [if_neg c23]
        by_cases c24 : op = 24
        · obtain ⟨I1, v, I2, h1, h2, h3⟩ := op_cell N hI (X (6 * k + 1)) (X (6 * k + 2)) (X (6 * k + 3))
          rw [if_pos c24, if_pos x1, if_pos x2, if_pos x3, h1]
          simp only [Option.bind_some]
          rw [if_pos x1, if_pos x2, if_pos x3, h2]
          simp only [Option.bind_some]
          rw [if_pos trivial]
          exact go ρ I2 J h3
        rw [if_neg c24]
        by_cases c25 : op = 25
        · obtain ⟨I1, v, I2, h1, h2, h3⟩ := op_copy N hI (by omega) (X (6 * k + 1)) (X (6 * k + 2)) (X (6 * k + 3)) (X (6 * k + 4)) (X (6 * k + 5))
          rw [if_pos c25, if_pos x1, if_pos x2, if_pos x3, if_pos x4, if_pos x5, h1]
          simp only [Option.bind_some]
          rw [if_pos x1, if_pos x2, if_pos x3, if_pos x4, if_pos x5, h2]
          simp only [Option.bind_some]
          rw [if_pos trivial]
          exact go ρ I2 J h3
        rw [if_neg c25]
        by_cases c26 : op = 26
        · obtain ⟨I1, v, I2, h1, h2, h3⟩ := op_men N hI (by omega) (X (6 * k + 1)) (X (6 * k + 2)) (X (6 * k + 3)) (X (6 * k + 4))
          rw [if_pos c26, if_pos x1, if_pos x2, if_pos x3, if_pos x4, h1]
          simp only [Option.bind_some]
          rw [if_pos x1, if_pos x2, if_pos x3, if_pos x4, h2]
          simp only [Option.bind_some]
          rw [if_pos trivial]
          exact go ρ I2 J h3
        rw [if_neg c26]
        by_cases c27 : op = 27
        · obtain ⟨v, h1, h2⟩ := op_taken N hI (X (6 * k + 1)) (X (6 * k + 2))
          rw [if_pos c27, if_pos x1, if_pos x2, h1]
          simp only [Option.bind_some]
          rw [if_pos x1, if_pos x2, h2]
          simp only [Option.bind_some]
          rw [if_pos trivial]
          exact go ρ I J hI
        rw [if_neg c27]
        exact go ρ I J hI
theorem law_all (hT : txtOk) {L : Nat} (xs : Nat → Int32) (hL : L ≤ 3072) : ∃ (N n : Nat) (o : (Nat → Nat → Int32) × (Nat → Nat → Int64) × Rh), n ≤ 600 ∧ f_L_law_18 N L xs n iZ jA ρA 0 = some (Sum.inr o) := by
  obtain ⟨o, ho⟩ := law_run hT (N := 1000) (L := L) (X := xs) (Nat.le_refl _) hL 520 0 600 ρA iZ jA (by omega) (by omega) (by omega) inv_A
  exact ⟨1000, 600, o, Nat.le_refl _, ho⟩
