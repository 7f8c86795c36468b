/-! ===== the pure layer: numbers ===== -/
theorem fa_lt (a b : Int32) : a < b ↔ a.toInt < b.toInt := Int32.lt_iff_toInt_lt
theorem fa_le (a b : Int32) : a ≤ b ↔ a.toInt ≤ b.toInt := Int32.le_iff_toInt_le
theorem fa_eq (a b : Int32) : a = b ↔ a.toInt = b.toInt := Int32.toInt_inj.symm
theorem fa_lt64 (a b : Int64) : a < b ↔ a.toInt < b.toInt := Int64.lt_iff_toInt_lt
theorem fa_le64 (a b : Int64) : a ≤ b ↔ a.toInt ≤ b.toInt := Int64.le_iff_toInt_le
theorem fa_eq64 (a b : Int64) : a = b ↔ a.toInt = b.toInt := Int64.toInt_inj.symm
theorem p_i0 : (0 : Int32).toInt = 0 := rfl
theorem p_rng (a : Int32) : -2147483648 ≤ a.toInt ∧ a.toInt < 2147483648 := ⟨Int32.le_toInt a, Int32.toInt_lt a⟩
theorem p_add {a b : Int32} (h1 : -2147483648 ≤ a.toInt + b.toInt) (h2 : a.toInt + b.toInt < 2147483648) : (a + b).toInt = a.toInt + b.toInt := by
  rw [Int32.toInt_add]
  exact Int.bmod_eq_of_le (by omega) (by omega)
theorem p_sub {a b : Int32} (h1 : -2147483648 ≤ a.toInt - b.toInt) (h2 : a.toInt - b.toInt < 2147483648) : (a - b).toInt = a.toInt - b.toInt := by
  rw [Int32.toInt_sub]
  exact Int.bmod_eq_of_le (by omega) (by omega)
theorem p_mul {a b : Int32} (h1 : -2147483648 ≤ a.toInt * b.toInt) (h2 : a.toInt * b.toInt < 2147483648) : (a * b).toInt = a.toInt * b.toInt := by
  rw [Int32.toInt_mul]
  exact Int.bmod_eq_of_le (by omega) (by omega)
theorem p_tn (a : Int32) : tn a = a.toInt.toNat := rfl
theorem p_nI {n : Nat} (h : n < 2147483648) : (Int32.ofNat n).toInt = n := Int32.toInt_ofNat_of_lt (by omega)
theorem p_tnI {n : Nat} (h : n < 2147483648) : tn (Int32.ofNat n) = n := by rw [p_tn, p_nI h]; rfl
theorem p_eq {a b : Int32} (h : a.toInt = b.toInt) : a = b := Int32.toInt_inj.mp h
theorem p_tnb {a : Int32} (h : 0 ≤ a.toInt) : Int32.ofNat (tn a) = a := by
  have := p_rng a
  refine p_eq ?_
  rw [p_nI (by rw [p_tn]; omega), p_tn]; omega
theorem p_succ {n : Nat} (h : n + 1 < 2147483648) : Int32.ofNat n + 1 = Int32.ofNat (n + 1) := by
  refine p_eq ?_
  have e := p_nI (n := n) (by omega)
  have e1 : (1 : Int32).toInt = 1 := rfl
  rw [p_add (by omega) (by omega), p_nI h, e, e1]; omega
theorem p_b01 {P : Prop} [Decidable P] : ((if P then (1 : Int32) else 0) = 0) = ¬ P := by
  by_cases h : P
  · rw [if_pos h]; exact propext ⟨fun z => absurd z (by decide), fun z => absurd h z⟩
  · rw [if_neg h]; exact propext ⟨fun _ => h, fun _ => rfl⟩
theorem p_b11 {P : Prop} [Decidable P] : ((if P then (1 : Int32) else 0) = 1) = P := by
  by_cases h : P
  · rw [if_pos h]; exact propext ⟨fun _ => h, fun _ => rfl⟩
  · rw [if_neg h]; exact propext ⟨fun z => absurd z (by decide), fun z => absurd z h⟩
theorem p_bb {P Q : Prop} [Decidable P] [Decidable Q] (h : P ↔ Q) : (if P then (1 : Int32) else 0) = if Q then 1 else 0 := by
  by_cases hp : P
  · rw [if_pos hp, if_pos (h.mp hp)]
  · rw [if_neg hp, if_neg (fun q => hp (h.mpr q))]
/-- the common helpers -/
theorem m_in (N : Nat) (ρ : Rh) (I : Nat → Nat → Int32) (J : Nat → Nat → Int64) (a b c : Int32) : f_X12_in N ρ I J a b c = some (if b.toInt ≤ a.toInt ∧ a.toInt ≤ c.toInt then 1 else 0) := by
  simp only [f_X12_in, fa_lt]
  split
  · rw [if_neg (by omega)]
  · split
    · rw [if_neg (by omega)]
    · rw [if_pos (by omega)]
theorem c_isStore (N : Nat) (ρ : Rh) (I : Nat → Nat → Int32) (J : Nat → Nat → Int64) (a : Int32) : f_X11_isStore N ρ I J a = some (if 1 ≤ a.toInt ∧ a.toInt ≤ 99 then 1 else 0) := by
  simp only [f_X11_isStore, fa_lt]
  split
  · rw [if_neg (by rename_i h; exact fun z => absurd h (by show ¬ a.toInt < 1; omega))]
  · split
    · rw [if_neg (by rename_i h; exact fun z => absurd h (by show ¬ 99 < a.toInt; omega))]
    · rw [if_pos]
      rename_i h1 h2
      exact ⟨Int.not_lt.mp h1, Int.not_lt.mp h2⟩
theorem c_isRows (N : Nat) (ρ : Rh) (I : Nat → Nat → Int32) (J : Nat → Nat → Int64) (a : Int32) : f_X11_isRows N ρ I J a = some (if 0 ≤ a.toInt ∧ a.toInt ≤ 9 then 1 else 0) := by
  simp only [f_X11_isRows, fa_lt]
  split
  · rw [if_neg (by rename_i h; exact fun z => absurd h (by show ¬ a.toInt < 0; omega))]
  · split
    · rw [if_neg (by rename_i h; exact fun z => absurd h (by show ¬ 9 < a.toInt; omega))]
    · rw [if_pos]
      rename_i h1 h2
      exact ⟨Int.not_lt.mp h1, Int.not_lt.mp h2⟩
theorem c_isMan (N : Nat) (ρ : Rh) (I : Nat → Nat → Int32) (J : Nat → Nat → Int64) (a : Int32) : f_X11_isMan N ρ I J a = some (if 0 ≤ a.toInt ∧ a.toInt < (I 42 0).toInt then 1 else 0) := by
  simp only [f_X11_isMan, fa_lt, fa_le]
  split
  · rw [if_neg (by rename_i h; exact fun z => absurd h (by show ¬ a.toInt < 0; omega))]
  · split
    · rw [if_neg (by omega)]
    · rw [if_pos]
      rename_i h1 h2
      exact ⟨Int.not_lt.mp h1, Int.not_le.mp h2⟩
theorem m_isMan (N : Nat) (ρ : Rh) (I : Nat → Nat → Int32) (J : Nat → Nat → Int64) (a : Int32) (h : 0 ≤ (I 89 0).toInt) : f_X12_isMan N ρ I J a = some (if 0 ≤ a.toInt ∧ a.toInt < (I 89 0).toInt then 1 else 0) := by
  have e : ((I 89 0) - 1).toInt = (I 89 0).toInt - 1 := by
    have := p_rng (I 89 0)
    have e1 : (1 : Int32).toInt = 1 := rfl
    rw [p_sub (by omega) (by omega), e1]
  simp only [f_X12_isMan, m_in, Option.bind_some, e, p_i0]
  exact congrArg some (p_bb (by omega))
theorem m_isRule (N : Nat) (ρ : Rh) (I : Nat → Nat → Int32) (J : Nat → Nat → Int64) (a : Int32) (h : 0 ≤ (I 89 9).toInt) : f_X12_isRule N ρ I J a = some (if 0 ≤ a.toInt ∧ a.toInt < (I 89 9).toInt then 1 else 0) := by
  have e : ((I 89 9) - 1).toInt = (I 89 9).toInt - 1 := by
    have := p_rng (I 89 9)
    have e1 : (1 : Int32).toInt = 1 := rfl
    rw [p_sub (by omega) (by omega), e1]
  simp only [f_X12_isRule, m_in, Option.bind_some, e, p_i0]
  exact congrArg some (p_bb (by omega))
theorem c_isPart (N : Nat) (ρ : Rh) (I : Nat → Nat → Int32) (J : Nat → Nat → Int64) (a : Int32) : f_X11_isPart N ρ I J a = some (if 0 ≤ a.toInt ∧ a.toInt ≤ 1 then 1 else 0) := by
  simp only [f_X11_isPart, fa_eq]
  split
  · rename_i h
    have h : a.toInt = 0 := h
    rw [if_pos (by omega)]
  · split
    · rename_i h1 h
      have h : a.toInt = 1 := h
      rw [if_pos (by omega)]
    · rename_i h1 h2
      have h1 : ¬ a.toInt = 0 := h1
      have h2 : ¬ a.toInt = 1 := h2
      rw [if_neg (by omega)]
