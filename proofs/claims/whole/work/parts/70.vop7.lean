/-! ===== the pure layer: take, takes ===== -/
theorem shl1 {n : Nat} (h : n ≤ 8) : ((1 : Int32) <<< (Int32.ofNat n &&& 31)).toInt = ((2 ^ n : Nat) : Int) ∧ ((1 : Int32) <<< (Int32.ofNat n &&& 31) - 1).toInt = ((2 ^ n : Nat) : Int) - 1 ∧ 2 ^ n ≤ 256 := by
  have key : ∀ n : Nat, n ≤ 8 → ((1 : Int32) <<< (Int32.ofNat n &&& 31)).toInt = ((2 ^ n : Nat) : Int) ∧ ((1 : Int32) <<< (Int32.ofNat n &&& 31) - 1).toInt = ((2 ^ n : Nat) : Int) - 1 ∧ 2 ^ n ≤ 256 := by decide
  exact key n h
theorem op_take {ρ : Rh} {I : Nat → Nat → Int32} {J : Nat → Nat → Int64} (N : Nat) (h : Inv ρ I J) (hN : 200 ≤ N) (r s : Int32) : ∃ I1 J1 ρ1 v I2 J2, f_X11_take N ρ I J r s = some (I1, J1, ρ1, v) ∧ f_X12_take N ρ1 I1 J1 r s = some (I2, J2, v) ∧ Inv ρ1 I2 J2 := by
  have m1 := h.2.1.1
  have m2 := h.2.1.2.1
  have r2 := h.2.2.2.2.2.2.1.2.1
  unfold bw at m2 r2
  have tm := p_tnc (I 89 0) m2.1
  have ir := m_isRule N ρ I J r (by omega)
  have hn0 : I 89 0 = Int32.ofNat (tn (I 89 0)) := (p_tnb m2.1).symm
  obtain ⟨p1, p2, p3⟩ := shl1 (n := tn (I 89 0)) (by omega)
  by_cases hr : 0 ≤ r.toInt ∧ r.toInt < (I 89 9).toInt
  · obtain ⟨a, g1, hR⟩ := ruleAt_rx N h hr.1 hr.2
    by_cases hs : 1 ≤ s.toInt ∧ s.toInt < ((2 ^ tn (I 89 0) : Nat) : Int)
    · obtain ⟨t, l, b, hh, L, hL⟩ := lx_of h
      obtain ⟨I1, J1, ρ1, c1, c2, c3⟩ := c_keep hN h (SX.refl ρ I J) hR hL
      obtain ⟨I2, J2, ρ2, e1, e2, e3⟩ := c_would hN h c2 hR hL c3 s
      obtain ⟨X1, K1, d1, d2, d3⟩ := m_keep hN h e2 hR hL
      obtain ⟨X2, u1, u2'⟩ := m_would hN h d2 hR hL d3 s
      have n9 : I2 89 9 = I 89 9 := e2.1 89 9 (by unfold SC; omega)
      have n0 : I2 89 0 = I 89 0 := e2.1 89 0 (by unfold SC; omega)
      have ir1 := m_isRule N ρ2 I2 J2 r (by rw [n9]; omega)
      rw [n9] at ir1
      rw [p_tnb hr.1] at d1 u1
      refine ⟨I2, J2, ρ2, if wtX I (tn r) b hh L s = true then 1 else 0, X2, K1, ?_, ?_, u2'.inv h⟩
      · unfold f_X11_take
        rw [g1]
        simp only [Option.bind_some, ocase_so]
        rw [if_neg (by rw [fa_le]; show ¬ _ ≤ (0 : Int); omega), if_pos (by rw [fa_lt, m1, hn0, p1]; exact hs.2), c1]
        simp only [Option.bind_some]
        rw [e1]
        simp only [Option.bind_some]
        by_cases q : wtX I (tn r) b hh L s = true
        · rw [if_pos q, if_neg (by decide)]
        · rw [if_neg q, if_pos rfl]
      · unfold f_X12_take f_X12_all
        rw [ir1]
        simp only [Option.bind_some, p_b01, m_in]
        rw [if_neg (by omega), n0, if_neg (by rw [hn0, p2]; show ¬ ¬ ((1 : Int) ≤ _ ∧ _ ≤ _); omega), d1]
        simp only [Option.bind_some]
        rw [u1]
        simp only [Option.bind_some]
        by_cases q : wtX I (tn r) b hh L s = true
        · rw [if_pos q, if_neg (by decide)]
        · rw [if_neg q, if_pos rfl]
    · refine ⟨I, J, ρ, -7, I, J, ?_, ?_, h⟩
      · unfold f_X11_take
        rw [g1]
        simp only [Option.bind_some, ocase_so]
        by_cases q : s.toInt ≤ 0
        · rw [if_pos (by rw [fa_le]; exact q)]
        · rw [if_neg (by rw [fa_le]; exact q), if_neg (by rw [fa_lt, m1, hn0, p1]; omega)]
      · unfold f_X12_take f_X12_all
        rw [ir]
        simp only [Option.bind_some, p_b01, m_in]
        rw [if_neg (by omega), if_pos (by rw [hn0, p2]; show ¬ ((1 : Int) ≤ _ ∧ _ ≤ _); omega)]
  · have g1 := rule_out J N h.2.2.2.2.2.2.1 hr
    refine ⟨I, J, ρ, -5, I, J, ?_, ?_, h⟩
    · unfold f_X11_take
      rw [g1]
      simp only [Option.bind_some, ocase_no]
    · unfold f_X12_take
      rw [ir]
      simp only [Option.bind_some, p_b01]
      rw [if_pos hr]
def pc8 (p : Int32) : Int32 := 0 + (p >>> ((0 : Int32) &&& 31) &&& 1) + (p >>> ((1 : Int32) &&& 31) &&& 1) + (p >>> ((2 : Int32) &&& 31) &&& 1) + (p >>> ((3 : Int32) &&& 31) &&& 1) + (p >>> ((4 : Int32) &&& 31) &&& 1) + (p >>> ((5 : Int32) &&& 31) &&& 1) + (p >>> ((6 : Int32) &&& 31) &&& 1) + (p >>> ((7 : Int32) &&& 31) &&& 1)
theorem bitc {N : Nat} {ρ : Rh} {I : Nat → Nat → Int32} {J : Nat → Nat → Int64} {s : Nat} (h : s < 256) : f_J6_bitCount_0f7a4 N ρ I J (Int32.ofNat s) = some (pc8 (Int32.ofNat s)) := by
  have key : ∀ s ∈ List.range 256, f_J6_bitCount_0f7a4 0 ρA iA jA (Int32.ofNat s) = some (pc8 (Int32.ofNat s)) := by decide +kernel
  have e : f_J6_bitCount_0f7a4 N ρ I J (Int32.ofNat s) = f_J6_bitCount_0f7a4 0 ρA iA jA (Int32.ofNat s) := rfl
  rw [e]
  exact key s (List.mem_range.mpr h)
theorem m_ones {N : Nat} (hN : 200 ≤ N) {ρ : Rh} {X : Nat → Nat → Int32} {J : Nat → Nat → Int64} (p : Int32) : f_X12_ones N ρ X J p = some (pc8 p) := by
  obtain ⟨n, rfl⟩ : ∃ n, N = n + 9 := ⟨N - 9, by omega⟩
  have st : ∀ (M f : Nat) (x i : Int32), ¬ 8 ≤ i → f_X12_ones_4 M X J ρ p (f + 1) x i = f_X12_ones_4 M X J ρ p f (x + ((p >>> (i &&& 31)) &&& 1)) (i + 1) := by
    intro M f x i hi
    rw [f_X12_ones_4.eq_2, if_neg hi]
    rfl
  unfold f_X12_ones
  rw [st _ _ _ _ (by decide), st _ _ _ _ (by decide), st _ _ _ _ (by decide), st _ _ _ _ (by decide), st _ _ _ _ (by decide), st _ _ _ _ (by decide), st _ _ _ _ (by decide), st _ _ _ _ (by decide), f_X12_ones_4.eq_2, if_pos (by decide)]
  rfl
/-- the first set of so many who would take the keg, from s on -/
def fst1 (I0 : Nat → Nat → Int32) (r b h L many : Nat) : Nat → Nat → Option Nat
  | 0, _ => none
  | e + 1, s => if pc8 (Int32.ofNat s) = Int32.ofNat many then (if wtX I0 r b h L (Int32.ofNat s) = true then some s else fst1 I0 r b h L many e (s + 1)) else fst1 I0 r b h L many e (s + 1)
theorem c_tk1 {N : Nat} (hN : 200 ≤ N) {ρ0 : Rh} {I0 : Nat → Nat → Int32} {J0 : Nat → Nat → Int64} (h0 : Inv ρ0 I0 J0) {r a t l b h L : Nat} (hR : RX ρ0 I0 r a) (hL : LX ρ0 I0 t l b h L) (many : Nat) : ∀ (e s fuel : Nat) (ρ : Rh) (I : Nat → Nat → Int32) (J : Nat → Nat → Int64), s + e = 2 ^ tn (I0 89 0) → e < fuel → SX ρ0 I0 J0 ρ I J → (∀ m, m < tn (I0 89 0) → J 39 m = Int64.ofNat (HH 12 I0 r b h L (I0 89 5) (fun _ => true) (-1) 0 m)) → ∃ I1 J1 ρ1, f_X11_takes_28 N a (Int32.ofNat many) fuel I J ρ (Int32.ofNat s) = some (match fst1 I0 r b h L many e s with | some v => Sum.inl (I1, J1, ρ1, Int32.ofNat v) | none => Sum.inr (I1, J1, ρ1)) ∧ SX ρ0 I0 J0 ρ1 I1 J1 ∧ (∀ m, m < tn (I0 89 0) → J1 39 m = Int64.ofNat (HH 12 I0 r b h L (I0 89 5) (fun _ => true) (-1) 0 m))
  | 0, s, fuel + 1, ρ, I, J, z1, z2, hS, hK => by
    have m1 := h0.2.1.1
    have m2 := h0.2.1.2.1
    unfold bw at m2
    have tm := p_tnc (I0 89 0) m2.1
    obtain ⟨p1, p2, p3⟩ := shl1 (n := tn (I0 89 0)) (by omega)
    refine ⟨I, J, ρ, ?_, hS, hK⟩
    rw [f_X11_takes_28.eq_2, hS.1 42 0 (by unfold SC; omega), m1, if_pos (by rw [show I0 89 0 = Int32.ofNat (tn (I0 89 0)) from (p_tnb m2.1).symm, fa_le, p1, p_nI (by omega)]; omega)]
    rfl
  | e + 1, s, fuel + 1, ρ, I, J, z1, z2, hS, hK => by
    have m1 := h0.2.1.1
    have m2 := h0.2.1.2.1
    unfold bw at m2
    have tm := p_tnc (I0 89 0) m2.1
    obtain ⟨p1, p2, p3⟩ := shl1 (n := tn (I0 89 0)) (by omega)
    have hf : fst1 I0 r b h L many (e + 1) s = if pc8 (Int32.ofNat s) = Int32.ofNat many then (if wtX I0 r b h L (Int32.ofNat s) = true then some s else fst1 I0 r b h L many e (s + 1)) else fst1 I0 r b h L many e (s + 1) := rfl
    have hstep : ∀ T, (if pc8 (Int32.ofNat s) = Int32.ofNat many then (Option.bind (f_X11_wouldTake N ρ I J a (Int32.ofNat s)) fun v15 => (if (v15.2.2.2 = (0)) then f_X11_takes_28 N a (Int32.ofNat many) fuel v15.1 v15.2.1 v15.2.2.1 (Int32.ofNat (s + 1)) else some (Sum.inl (v15.1, v15.2.1, v15.2.2.1, Int32.ofNat s)))) else f_X11_takes_28 N a (Int32.ofNat many) fuel I J ρ (Int32.ofNat (s + 1))) = T → f_X11_takes_28 N a (Int32.ofNat many) (fuel + 1) I J ρ (Int32.ofNat s) = T := by
      intro T hT
      rw [f_X11_takes_28.eq_2, hS.1 42 0 (by unfold SC; omega), m1, if_neg (by rw [show I0 89 0 = Int32.ofNat (tn (I0 89 0)) from (p_tnb m2.1).symm, fa_le, p1, p_nI (by omega)]; omega), bitc (by omega)]
      simp only [Option.bind_some]
      rw [p_succ (by omega)]
      exact hT
    rw [hf]
    by_cases q : pc8 (Int32.ofNat s) = Int32.ofNat many
    · obtain ⟨I1, J1, ρ1, c1, c2, c3⟩ := c_would hN h0 hS hR hL hK (Int32.ofNat s)
      by_cases q2 : wtX I0 r b h L (Int32.ofNat s) = true
      · refine ⟨I1, J1, ρ1, hstep _ ?_, c2, c3⟩
        rw [if_pos q, if_pos q, if_pos q2, c1]
        simp only [Option.bind_some]
        rw [if_pos q2, if_neg (by decide)]
      · obtain ⟨I2, J2, ρ2, f1, f2, f3⟩ := c_tk1 hN h0 hR hL many e (s + 1) fuel ρ1 I1 J1 (by omega) (by omega) c2 c3
        refine ⟨I2, J2, ρ2, hstep _ ?_, f2, f3⟩
        rw [if_pos q, if_pos q, if_neg q2, c1]
        simp only [Option.bind_some]
        rw [if_neg q2, if_pos rfl]
        exact f1
    · obtain ⟨I2, J2, ρ2, f1, f2, f3⟩ := c_tk1 hN h0 hR hL many e (s + 1) fuel ρ I J (by omega) (by omega) hS hK
      refine ⟨I2, J2, ρ2, hstep _ ?_, f2, f3⟩
      rw [if_neg q, if_neg q]
      exact f1
theorem m_tk1 {N : Nat} (hN : 200 ≤ N) {ρ0 ρ : Rh} {I0 : Nat → Nat → Int32} {J0 J : Nat → Nat → Int64} (h0 : Inv ρ0 I0 J0) {r a t l b h L : Nat} (hR : RX ρ0 I0 r a) (hL : LX ρ0 I0 t l b h L) (hK : ∀ m, m < tn (I0 89 0) → J 114 m = Int64.ofNat (HH (tn (I0 89 3)) I0 r b h L (I0 89 5) (fun _ => true) (-1) 0 m)) (many : Nat) : ∀ (e s fuel : Nat) (X : Nat → Nat → Int32), s + e = 2 ^ tn (I0 89 0) → e < fuel → SX ρ0 I0 J0 ρ X J → ∃ X1, f_X12_takes_25 N J ρ (Int32.ofNat r) (Int32.ofNat many) fuel X (Int32.ofNat s) = some (match fst1 I0 r b h L many e s with | some v => Sum.inl (X1, J, Int32.ofNat v) | none => Sum.inr X1) ∧ SX ρ0 I0 J0 ρ X1 J
  | 0, s, fuel + 1, X, z1, z2, hS => by
    have m2 := h0.2.1.2.1
    unfold bw at m2
    have tm := p_tnc (I0 89 0) m2.1
    obtain ⟨p1, p2, p3⟩ := shl1 (n := tn (I0 89 0)) (by omega)
    refine ⟨X, ?_, hS⟩
    rw [f_X12_takes_25.eq_2]
    unfold f_X12_all
    simp only [Option.bind_some]
    rw [hS.1 89 0 (by unfold SC; omega), if_pos (by rw [show I0 89 0 = Int32.ofNat (tn (I0 89 0)) from (p_tnb m2.1).symm, fa_lt, p2, p_nI (by omega)]; omega)]
    rfl
  | e + 1, s, fuel + 1, X, z1, z2, hS => by
    have m2 := h0.2.1.2.1
    unfold bw at m2
    have tm := p_tnc (I0 89 0) m2.1
    obtain ⟨p1, p2, p3⟩ := shl1 (n := tn (I0 89 0)) (by omega)
    have hf : fst1 I0 r b h L many (e + 1) s = if pc8 (Int32.ofNat s) = Int32.ofNat many then (if wtX I0 r b h L (Int32.ofNat s) = true then some s else fst1 I0 r b h L many e (s + 1)) else fst1 I0 r b h L many e (s + 1) := rfl
    have hstep : ∀ T, (if pc8 (Int32.ofNat s) = Int32.ofNat many then (Option.bind (f_X12_would N ρ X J (Int32.ofNat r) (Int32.ofNat s)) fun v9 => (if (v9.2 = (0)) then f_X12_takes_25 N J ρ (Int32.ofNat r) (Int32.ofNat many) fuel v9.1 (Int32.ofNat (s + 1)) else some (Sum.inl (v9.1, J, Int32.ofNat s)))) else f_X12_takes_25 N J ρ (Int32.ofNat r) (Int32.ofNat many) fuel X (Int32.ofNat (s + 1))) = T → f_X12_takes_25 N J ρ (Int32.ofNat r) (Int32.ofNat many) (fuel + 1) X (Int32.ofNat s) = T := by
      intro T hT
      rw [f_X12_takes_25.eq_2]
      unfold f_X12_all
      simp only [Option.bind_some]
      rw [hS.1 89 0 (by unfold SC; omega), if_neg (by rw [show I0 89 0 = Int32.ofNat (tn (I0 89 0)) from (p_tnb m2.1).symm, fa_lt, p2, p_nI (by omega)]; omega), m_ones hN]
      simp only [Option.bind_some]
      rw [p_succ (by omega)]
      exact hT
    rw [hf]
    by_cases q : pc8 (Int32.ofNat s) = Int32.ofNat many
    · obtain ⟨X1, c1, c2⟩ := m_would hN h0 hS hR hL hK (Int32.ofNat s)
      by_cases q2 : wtX I0 r b h L (Int32.ofNat s) = true
      · refine ⟨X1, hstep _ ?_, c2⟩
        rw [if_pos q, if_pos q, if_pos q2, c1]
        simp only [Option.bind_some]
        rw [if_pos q2, if_neg (by decide)]
      · obtain ⟨X2, f1, f2⟩ := m_tk1 hN h0 hR hL hK many e (s + 1) fuel X1 (by omega) (by omega) c2
        refine ⟨X2, hstep _ ?_, f2⟩
        rw [if_pos q, if_pos q, if_neg q2, c1]
        simp only [Option.bind_some]
        rw [if_neg q2, if_pos rfl]
        exact f1
    · obtain ⟨X2, f1, f2⟩ := m_tk1 hN h0 hR hL hK many e (s + 1) fuel X (by omega) (by omega) hS
      refine ⟨X2, hstep _ ?_, f2⟩
      rw [if_neg q, if_neg q]
      exact f1
/-- over one, two, three takers -/
def fst2 (I0 : Nat → Nat → Int32) (r b h L : Nat) : Nat → Nat → Option Nat
  | 0, _ => none
  | e + 1, k => match fst1 I0 r b h L k (2 ^ tn (I0 89 0) - 1) 1 with
    | some v => some v
    | none => fst2 I0 r b h L e (k + 1)
theorem c_tk2 {N : Nat} (hN : 300 ≤ N) {ρ0 : Rh} {I0 : Nat → Nat → Int32} {J0 : Nat → Nat → Int64} (h0 : Inv ρ0 I0 J0) {r a t l b h L : Nat} (hR : RX ρ0 I0 r a) (hL : LX ρ0 I0 t l b h L) : ∀ (e k fuel : Nat) (ρ : Rh) (I : Nat → Nat → Int32) (J : Nat → Nat → Int64), k + e = 4 → 1 ≤ k → e < fuel → SX ρ0 I0 J0 ρ I J → (∀ m, m < tn (I0 89 0) → J 39 m = Int64.ofNat (HH 12 I0 r b h L (I0 89 5) (fun _ => true) (-1) 0 m)) → ∃ I1 J1 ρ1, f_X11_takes_20 N a fuel I J ρ (Int32.ofNat k) = some (match fst2 I0 r b h L e k with | some v => Sum.inl (I1, J1, ρ1, Int32.ofNat v) | none => Sum.inr (I1, J1, ρ1)) ∧ SX ρ0 I0 J0 ρ1 I1 J1
  | 0, k, fuel + 1, ρ, I, J, z1, zk, z2, hS, hK => by
    refine ⟨I, J, ρ, ?_, hS⟩
    rw [f_X11_takes_20.eq_2, if_pos (by rw [fa_lt, p_nI (by omega)]; show (3 : Int) < _; omega)]
    rfl
  | e + 1, k, fuel + 1, ρ, I, J, z1, zk, z2, hS, hK => by
    have m2 := h0.2.1.2.1
    unfold bw at m2
    have tm := p_tnc (I0 89 0) m2.1
    obtain ⟨p1, p2, p3⟩ := shl1 (n := tn (I0 89 0)) (by omega)
    have p0 : 0 < 2 ^ tn (I0 89 0) := Nat.pow_pos (by decide)
    obtain ⟨I1, J1, ρ1, c1, c2, c3⟩ := c_tk1 (N := N) (by omega) h0 hR hL k (2 ^ tn (I0 89 0) - 1) 1 N ρ I J (by omega) (by omega) hS hK
    have hf : fst2 I0 r b h L (e + 1) k = match fst1 I0 r b h L k (2 ^ tn (I0 89 0) - 1) 1 with
      | some v => some v
      | none => fst2 I0 r b h L e (k + 1) := rfl
    cases hq : fst1 I0 r b h L k (2 ^ tn (I0 89 0) - 1) 1 with
    | some v =>
      rw [hq] at c1 hf
      refine ⟨I1, J1, ρ1, ?_, c2⟩
      rw [hf, f_X11_takes_20.eq_2, if_neg (by rw [fa_lt, p_nI (by omega)]; show ¬ (3 : Int) < _; omega), show (1 : Int32) = Int32.ofNat 1 from rfl, c1]
      rfl
    | none =>
      rw [hq] at c1 hf
      obtain ⟨I2, J2, ρ2, f1, f2⟩ := c_tk2 hN h0 hR hL e (k + 1) fuel ρ1 I1 J1 (by omega) (by omega) (by omega) c2 c3
      refine ⟨I2, J2, ρ2, ?_, f2⟩
      rw [hf, f_X11_takes_20.eq_2, if_neg (by rw [fa_lt, p_nI (by omega)]; show ¬ (3 : Int) < _; omega)]
      rw [show (f_X11_takes_28 N a (Int32.ofNat k) N I J ρ 1) = (f_X11_takes_28 N a (Int32.ofNat k) N I J ρ (Int32.ofNat 1)) from rfl, c1]
      simp only [Option.bind_some]
      rw [p_succ (by omega)]
      exact f1
theorem m_tk2 {N : Nat} (hN : 300 ≤ N) {ρ0 ρ : Rh} {I0 : Nat → Nat → Int32} {J0 J : Nat → Nat → Int64} (h0 : Inv ρ0 I0 J0) {r a t l b h L : Nat} (hR : RX ρ0 I0 r a) (hL : LX ρ0 I0 t l b h L) (hK : ∀ m, m < tn (I0 89 0) → J 114 m = Int64.ofNat (HH (tn (I0 89 3)) I0 r b h L (I0 89 5) (fun _ => true) (-1) 0 m)) : ∀ (e k fuel : Nat) (X : Nat → Nat → Int32), k + e = 4 → 1 ≤ k → e < fuel → SX ρ0 I0 J0 ρ X J → ∃ X1, f_X12_takes_18 N J ρ (Int32.ofNat r) fuel X (Int32.ofNat k) = some (match fst2 I0 r b h L e k with | some v => Sum.inl (X1, J, Int32.ofNat v) | none => Sum.inr X1) ∧ SX ρ0 I0 J0 ρ X1 J
  | 0, k, fuel + 1, X, z1, zk, z2, hS => by
    refine ⟨X, ?_, hS⟩
    rw [f_X12_takes_18.eq_2, if_pos (by rw [fa_lt, p_nI (by omega)]; show (3 : Int) < _; omega)]
    rfl
  | e + 1, k, fuel + 1, X, z1, zk, z2, hS => by
    have m2 := h0.2.1.2.1
    unfold bw at m2
    have tm := p_tnc (I0 89 0) m2.1
    obtain ⟨p1, p2, p3⟩ := shl1 (n := tn (I0 89 0)) (by omega)
    have p0 : 0 < 2 ^ tn (I0 89 0) := Nat.pow_pos (by decide)
    obtain ⟨X1, c1, c2⟩ := m_tk1 (N := N) (ρ := ρ) (by omega) h0 hR hL hK k (2 ^ tn (I0 89 0) - 1) 1 N X (by omega) (by omega) hS
    have hf : fst2 I0 r b h L (e + 1) k = match fst1 I0 r b h L k (2 ^ tn (I0 89 0) - 1) 1 with
      | some v => some v
      | none => fst2 I0 r b h L e (k + 1) := rfl
    cases hq : fst1 I0 r b h L k (2 ^ tn (I0 89 0) - 1) 1 with
    | some v =>
      rw [hq] at c1 hf
      refine ⟨X1, ?_, c2⟩
      rw [hf, f_X12_takes_18.eq_2, if_neg (by rw [fa_lt, p_nI (by omega)]; show ¬ (3 : Int) < _; omega)]
      rw [show (f_X12_takes_25 N J ρ (Int32.ofNat r) (Int32.ofNat k) N X 1) = (f_X12_takes_25 N J ρ (Int32.ofNat r) (Int32.ofNat k) N X (Int32.ofNat 1)) from rfl, c1]
      rfl
    | none =>
      rw [hq] at c1 hf
      obtain ⟨X2, f1, f2⟩ := m_tk2 hN h0 hR hL hK e (k + 1) fuel X1 (by omega) (by omega) (by omega) c2
      refine ⟨X2, ?_, f2⟩
      rw [hf, f_X12_takes_18.eq_2, if_neg (by rw [fa_lt, p_nI (by omega)]; show ¬ (3 : Int) < _; omega)]
      rw [show (f_X12_takes_25 N J ρ (Int32.ofNat r) (Int32.ofNat k) N X 1) = (f_X12_takes_25 N J ρ (Int32.ofNat r) (Int32.ofNat k) N X (Int32.ofNat 1)) from rfl, c1]
      simp only [Option.bind_some]
      rw [p_succ (by omega)]
      exact f1
theorem op_takes {ρ : Rh} {I : Nat → Nat → Int32} {J : Nat → Nat → Int64} (N : Nat) (h : Inv ρ I J) (hN : 300 ≤ N) (r : Int32) : ∃ I1 J1 ρ1 v I2 J2, f_X11_takes N ρ I J r = some (I1, J1, ρ1, v) ∧ f_X12_takes N ρ1 I1 J1 r = some (I2, J2, v) ∧ Inv ρ1 I2 J2 := by
  have m1 := h.2.1.1
  have m2 := h.2.1.2.1
  have r2 := h.2.2.2.2.2.2.1.2.1
  unfold bw at m2 r2
  have tm := p_tnc (I 89 0) m2.1
  have ir := m_isRule N ρ I J r (by omega)
  have hn0 : I 89 0 = Int32.ofNat (tn (I 89 0)) := (p_tnb m2.1).symm
  obtain ⟨p1, p2, p3⟩ := shl1 (n := tn (I 89 0)) (by omega)
  by_cases hr : 0 ≤ r.toInt ∧ r.toInt < (I 89 9).toInt
  · obtain ⟨a, g1, hR⟩ := ruleAt_rx N h hr.1 hr.2
    obtain ⟨t, l, b, hh, L, hL⟩ := lx_of h
    obtain ⟨I1, J1, ρ1, c1, c2, c3⟩ := c_keep (N := N) (by omega) h (SX.refl ρ I J) hR hL
    obtain ⟨I2, J2, ρ2, e1, e2⟩ := c_tk2 hN h hR hL 3 1 N ρ1 I1 J1 (by omega) (by omega) (by omega) c2 c3
    obtain ⟨X1, K1, d1, d2, d3⟩ := m_keep (N := N) (by omega) h e2 hR hL
    obtain ⟨X2, u1, u2'⟩ := m_tk2 hN h hR hL d3 3 1 N X1 (by omega) (by omega) (by omega) d2
    have n9 : I2 89 9 = I 89 9 := e2.1 89 9 (by unfold SC; omega)
    have ir1 := m_isRule N ρ2 I2 J2 r (by rw [n9]; omega)
    rw [n9] at ir1
    rw [p_tnb hr.1] at d1 u1
    rw [show Int32.ofNat 1 = (1 : Int32) from rfl] at e1 u1
    have cl : ∀ T, ((f_X11_takes_20 N a N I1 J1 ρ1 (1)).bind fun j17 => scase j17 (fun r => some r) (fun j17 => some (j17.1, j17.2.1, j17.2.2, (-1)))) = T → f_X11_takes N ρ I J r = T := by
      intro T hT
      unfold f_X11_takes
      rw [g1]
      simp only [Option.bind_some, ocase_so]
      rw [c1]
      exact hT
    have ml : ∀ T, ((f_X12_takes_18 N K1 ρ2 r N X1 (1)).bind fun j11 => scase j11 (fun r => some r) (fun j11 => some (j11, K1, (-1)))) = T → f_X12_takes N ρ2 I2 J2 r = T := by
      intro T hT
      unfold f_X12_takes
      rw [ir1]
      simp only [Option.bind_some, p_b01]
      rw [if_neg (by omega), d1]
      exact hT
    cases hq : fst2 I (tn r) b hh L 3 1 with
    | some v =>
      rw [hq] at e1 u1
      refine ⟨I2, J2, ρ2, Int32.ofNat v, X2, K1, cl _ ?_, ml _ ?_, u2'.inv h⟩
      · rw [e1]; rfl
      · rw [u1]; rfl
    | none =>
      rw [hq] at e1 u1
      refine ⟨I2, J2, ρ2, -1, X2, K1, cl _ ?_, ml _ ?_, u2'.inv h⟩
      · rw [e1]; rfl
      · rw [u1]; rfl
  · have g1 := rule_out J N h.2.2.2.2.2.2.1 hr
    refine ⟨I, J, ρ, -5, I, J, ?_, ?_, h⟩
    · unfold f_X11_takes
      rw [g1]
      simp only [Option.bind_some, ocase_no]
    · unfold f_X12_takes
      rw [ir]
      simp only [Option.bind_some, p_b01]
      rw [if_pos hr]
