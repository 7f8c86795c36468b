/-! ===== the pure layer: shares ===== -/
def lw0 (x : Int32) : Int32 := if 0 ≤ x then x else 0
theorem lw0_ge (x : Int32) : 0 ≤ (lw0 x).toInt := by
  unfold lw0
  by_cases h : 0 ≤ x
  · rw [if_pos h]; rw [fa_le] at h; exact h
  · rw [if_neg h]; exact Int.le_refl _
theorem lw0_c (x : Int32) : (if 0 < x then x else 0) = lw0 x := by
  unfold lw0
  simp only [fa_lt, fa_le]
  by_cases h : (0 : Int32).toInt < x.toInt
  · rw [if_pos h, if_pos (by omega)]
  · rw [if_neg h]
    by_cases h2 : (0 : Int32).toInt ≤ x.toInt
    · rw [if_pos h2]; exact p_eq (by omega)
    · rw [if_neg h2]
def shv (k mo : Int32) (num rw : Nat → Int32) (ra d st many ah : Int32) (m : Nat) : Int32 :=
  if k = 1 then lw0 (ra / many + (if rw m ≤ 0 then -1 else 1))
  else if k = 2 then lw0 (ra / many + (if mo ≤ st then -1 else 2))
  else if k = 3 then (if ah = (7 * d + mo) - (7 * d + mo) / many * many then 2 * lw0 (ra / many + (if mo ≤ st then -1 else 2)) else lw0 (ra / many + (if mo ≤ st then -1 else 2)))
  else if k = 4 then num m
  else if k = 5 then (if d < mo then lw0 (ra / many + (if rw m ≤ 0 then -1 else 1)) else lw0 (ra / many + (if rw m ≤ 0 then -1 else 1)) / 2)
  else ra / many
theorem p_div {a b : Int32} (ha : 0 ≤ a.toInt) (hb : 0 < b.toInt) : (a / b).toInt = a.toInt / b.toInt ∧ 0 ≤ (a / b).toInt ∧ (a / b).toInt ≤ a.toInt := by
  have r := p_rng a
  have h1 : 0 ≤ a.toInt / b.toInt := Int.ediv_nonneg ha (by omega)
  have h2 : a.toInt / b.toInt ≤ a.toInt := Int.ediv_le_self _ ha
  have e : (a / b).toInt = a.toInt / b.toInt := by
    rw [Int32.toInt_div, Int.tdiv_eq_ediv_of_nonneg ha]
    exact Int.bmod_eq_of_le (by omega) (by omega)
  omega
theorem shv_ge {k mo : Int32} {num rw : Nat → Int32} {ra d st many ah : Int32} {m : Nat} (h1 : 0 ≤ ra.toInt) (h2 : ra.toInt ≤ 99) (h3 : 0 < many.toInt) (h4 : 0 ≤ (num m).toInt) : 0 ≤ (shv k mo num rw ra d st many ah m).toInt := by
  have hd := p_div h1 h3
  have l1 : ∀ y : Int32, -1 ≤ y.toInt → y.toInt ≤ 2 → (lw0 (ra / many + y)).toInt ≤ 101 := by
    intro y a1 a2
    have e : (ra / many + y).toInt = (ra / many).toInt + y.toInt := p_add (by omega) (by omega)
    unfold lw0
    split
    · omega
    · decide
  unfold shv
  split
  · exact lw0_ge _
  split
  · exact lw0_ge _
  split
  · split
    · have g := lw0_ge (ra / many + (if mo ≤ st then -1 else 2))
      have u : (lw0 (ra / many + (if mo ≤ st then -1 else 2))).toInt ≤ 101 := l1 _ (by split <;> decide) (by split <;> decide)
      generalize lw0 (ra / many + (if mo ≤ st then -1 else 2)) = z at g u
      rw [p_mul (a := 2) (by show _ ≤ (2 : Int) * _; omega) (by show (2 : Int) * _ < _; omega)]
      show 0 ≤ (2 : Int) * _
      omega
    · exact lw0_ge _
  split
  · exact h4
  split
  · split
    · exact lw0_ge _
    · exact (p_div (b := 2) (lw0_ge _) (by decide)).2.1
  · exact hd.2.1
theorem c_share {N : Nat} {ρ : Rh} {I : Nat → Nat → Int32} {J : Nat → Nat → Int64} {r a m d : Nat} {ra st many ah : Int32} {num rw : Nat → Int32} {k mo : Int32} (h : vRule1 ρ I r a) (hk : k = I 94 r) (hmo : mo = I 95 r) (hnum : num m = I 96 (8 * r + m)) (hm : m < 8) (hd : d < 12) (h13 : I 48 13 = Int32.ofNat d) (h14 : I 48 14 = many) (hmany : 0 < many.toInt) (h9 : I 48 9 = ra) (h15 : I 48 15 = ah) (hst : I (50 + d) m = st) (hrw : rw m = I 44 m) : f_any_share N ρ I J a (Int32.ofNat m) = some (shv k mo num rw ra (Int32.ofNat d) st many ah m) := by
  have hR := rule_isR h
  have TF := told_for J N h (m := Int32.ofNat m) (by rw [p_nI (by omega)]; omega) (by rw [p_nI (by omega)]; omega)
  rw [p_tnI (by omega)] at TF
  obtain ⟨a1, a2, a3, a4, a5, a6, a7, a8, a9, a10⟩ := h
  have xm := p_ixn (k := m) (n := 8) hm (by omega)
  have xd : ¬ (Int32.ofNat d < 0 ∨ 13 ≤ tn (Int32.ofNat d)) := p_ixn (by omega) (by omega)
  have hm0 : ¬ many = 0 := fun z => by rw [z] at hmany; exact absurd hmany (by decide)
  have hmle : ¬ many ≤ 0 := by rw [fa_le]; exact Int.not_le.mpr hmany
  have P : f_X6_share N ρ I J a (Int32.ofNat m) = some (ra / many) := by
    unfold f_X6_share
    rw [h14, if_neg hmle, if_pos hm0, h9]
  have jr : (if I 44 m ≤ 0 then some (-1 : Int32) else some 1) = some (if rw m ≤ 0 then -1 else 1) := by rw [hrw]; split <;> rfl
  have jn' : (if I a 1 ≤ st then some (-1 : Int32) else some 2) = some (if mo ≤ st then -1 else 2) := by rw [a5, hmo]; split <;> rfl
  unfold f_any_share
  rw [if_pos hR, a3]
  rcases kcl_six a6 with c | c | c | c | c | c
  · rw [c] at a3
    rw [hk, c, if_pos (show ((0, kcl 0) : Nat × Nat).2 = 6 from rfl)]
    rw [P]
    simp [shv]
  · rw [c] at a3
    have ka : ρ.2.1 a = (0, 5) := a3
    rw [hk, c, if_neg (by decide), if_pos (show ((0, kcl 1) : Nat × Nat).2 = 5 from rfl)]
    unfold f_X5_share_5
    rw [if_pos xm, p_tnI (by omega), jr]
    simp only [Option.bind_some]
    rw [if_pos ka, P]
    simp only [Option.bind_some, lw0_c]
    simp [shv]
  · rw [c] at a3
    have ka : ρ.2.1 a = (0, 4) := a3
    rw [hk, c, if_neg (by decide), if_neg (by decide), if_pos (show ((0, kcl 2) : Nat × Nat).2 = 4 from rfl)]
    unfold f_X4_share_4
    rw [h13, if_pos xd, if_pos xm, if_pos ka, p_tnI (by omega), p_tnI (by omega), hst, jn']
    simp only [Option.bind_some]
    rw [P]
    simp only [Option.bind_some, lw0_c]
    simp [shv]
  · rw [c] at a3
    have ka : ρ.2.1 a = (0, 3) := a3
    rw [hk, c, if_neg (by decide), if_neg (by decide), if_neg (by decide), if_pos (show ((0, kcl 3) : Nat × Nat).2 = 3 from rfl)]
    have e4 : f_X4_share_3 N ρ I J a (Int32.ofNat m) = some (lw0 (ra / many + (if mo ≤ st then -1 else 2))) := by
      unfold f_X4_share_3
      rw [h13, if_pos xd, if_pos xm, if_pos ka, p_tnI (by omega), p_tnI (by omega), hst, jn']
      simp only [Option.bind_some]
      rw [P]
      simp only [Option.bind_some, lw0_c]
    unfold f_X3_share
    rw [if_pos ka, e4]
    simp only [Option.bind_some]
    rw [h14, if_neg hmle, if_pos hm0, h15, h13, a5, ← hmo]
    have eS : shv 3 mo num rw ra (Int32.ofNat d) st many ah m = (if ah = (7 * Int32.ofNat d + mo) - (7 * Int32.ofNat d + mo) / many * many then 2 * lw0 (ra / many + (if mo ≤ st then -1 else 2)) else lw0 (ra / many + (if mo ≤ st then -1 else 2))) := by
      unfold shv
      rw [if_neg (by decide), if_neg (by decide), if_pos rfl]
    rw [eS]
    by_cases q : ah = (7 * Int32.ofNat d + mo) - (7 * Int32.ofNat d + mo) / many * many
    · rw [if_pos q, if_pos q]
    · rw [if_neg q, if_neg q]
  · have k9 : (ρ.2.1 a).2 = 9 := by rw [a3, c]; rfl
    have hR' := hR
    unfold f_any_toldFor at TF
    rw [if_pos hR, a3, c] at TF
    rw [c] at a3
    have ka : ρ.2.1 a = (0, 9) := a3
    rw [if_neg (by decide), if_neg (by decide), if_neg (by decide), if_neg (by decide), if_pos (show ((0, kcl 4) : Nat × Nat).2 = 9 from rfl)] at TF
    rw [hk, c, if_neg (by decide), if_neg (by decide), if_neg (by decide), if_neg (by decide), if_pos (show ((0, kcl 4) : Nat × Nat).2 = 9 from rfl)]
    unfold f_X9_share
    rw [if_pos ka, TF]
    simp only [Option.bind_some]
    have eS : shv 4 mo num rw ra (Int32.ofNat d) st many ah m = num m := by
      unfold shv
      rw [if_neg (by decide), if_neg (by decide), if_neg (by decide), if_pos rfl]
    rw [eS, hnum]
  · rw [c] at a3
    have ka : ρ.2.1 a = (0, 1) := a3
    rw [hk, c, if_neg (by decide), if_neg (by decide), if_neg (by decide), if_neg (by decide), if_neg (by decide)]
    have e5 : f_X5_share_1 N ρ I J a (Int32.ofNat m) = some (lw0 (ra / many + (if rw m ≤ 0 then -1 else 1))) := by
      unfold f_X5_share_1
      rw [if_pos xm, p_tnI (by omega), jr]
      simp only [Option.bind_some]
      rw [if_pos ka, P]
      simp only [Option.bind_some, lw0_c]
    unfold f_X1_share
    rw [if_pos ka, e5]
    simp only [Option.bind_some]
    rw [h13, a5, ← hmo]
    have eS : shv 5 mo num rw ra (Int32.ofNat d) st many ah m = (if Int32.ofNat d < mo then lw0 (ra / many + (if rw m ≤ 0 then -1 else 1)) else lw0 (ra / many + (if rw m ≤ 0 then -1 else 1)) / 2) := by
      unfold shv
      rw [if_neg (by decide), if_neg (by decide), if_neg (by decide), if_neg (by decide), if_pos rfl]
    rw [eS]
    by_cases q : Int32.ofNat d < mo
    · rw [if_pos q, if_pos q]
    · rw [if_neg q, if_neg q]
theorem m_low {N : Nat} {ρ : Rh} {I : Nat → Nat → Int32} {J : Nat → Nat → Int64} (x : Int32) : f_X12_low N ρ I J x = some (lw0 x) := by
  unfold f_X12_low lw0
  split <;> rfl
theorem m_share {N : Nat} {ρ : Rh} {I : Nat → Nat → Int32} {J : Nat → Nat → Int64} {r m d : Nat} {ra st many ah : Int32} {num rw : Nat → Int32} {k mo : Int32} (hr : r < 8) (hk : k = I 94 r) (hk5 : bw (I 94 r) 0 5) (hmo : mo = I 95 r) (hnum : num m = I 96 (8 * r + m)) (hm : m < 8) (hd : d < 12) (hmany : 0 < many.toInt) (h9 : I 89 5 = ra) (hst : I 100 (8 * d + m) = st) (hrw : rw m = I 91 m) : f_X12_share N ρ I J (Int32.ofNat r) (Int32.ofNat m) (Int32.ofNat d) ah many = some (shv k mo num rw ra (Int32.ofNat d) st many ah m) := by
  have hm0 : ¬ many = 0 := fun z => by rw [z] at hmany; exact absurd hmany (by decide)
  have xm := p_ixn (k := m) (n := 8) hm (by omega)
  have xr := p_ixn (k := r) (n := 8) hr (by omega)
  have x1 := p_ixn (k := 8 * d + m) (n := 104) (by omega) (by omega)
  have x2 := p_ixn (k := 8 * r + m) (n := 64) (by omega) (by omega)
  have jr : (if I 91 m ≤ 0 then some (-1 : Int32) else some 1) = some (if rw m ≤ 0 then -1 else 1) := by rw [hrw]; split <;> rfl
  have jn' : (if I 95 r ≤ st then some (-1 : Int32) else some 2) = some (if mo ≤ st then -1 else 2) := by rw [hmo]; split <;> rfl
  have tm := p_tnI (n := m) (by omega)
  have tr := p_tnI (n := r) (by omega)
  have t1 := p_tnI (n := 8 * d + m) (by omega)
  have t2 := p_tnI (n := 8 * r + m) (by omega)
  unfold f_X12_share
  rw [if_pos hm0, if_pos xm, p_lin8 (by omega), p_lin8 (by omega)]
  simp only [tm, tr, t1, t2, hst, jr, jn', h9, m_low, Option.bind_some]
  rw [tm] at xm
  rw [tr] at xr
  rw [t1] at x1
  rw [t2] at x2
  rw [if_pos x1, if_pos xr, if_pos xr]
  unfold shv
  rw [← hk, ← hmo, ← hnum]
  by_cases k1 : k = 1
  · rw [if_pos k1, if_pos k1]
  rw [if_neg k1, if_neg k1]
  by_cases k2 : k = 2
  · rw [if_pos k2, if_pos k2]
  rw [if_neg k2, if_neg k2]
  by_cases k3 : k = 3
  · rw [if_pos k3, if_pos k3, if_pos xr, if_pos hm0]
    by_cases q : ah = (7 * Int32.ofNat d + mo) - (7 * Int32.ofNat d + mo) / many * many
    · rw [if_pos q, if_pos q]
    · rw [if_neg q, if_neg q]
  rw [if_neg k3, if_neg k3]
  by_cases k4 : k = 4
  · rw [if_pos k4, if_pos k4, if_pos x2]
  rw [if_neg k4, if_neg k4]
  by_cases k5 : k = 5
  · rw [if_pos k5, if_pos k5, if_pos xr]
    by_cases q : Int32.ofNat d < mo
    · rw [if_pos q, if_pos q]
    · rw [if_neg q, if_neg q]
  rw [if_neg k5, if_neg k5]
