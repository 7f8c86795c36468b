/-! ===== the pure layer: the class reads a token, whole ===== -/
theorem tc_is {I : Nat → Nat → Int32} (h : tBy I) {q v : Nat} (hq : q < 160) (hv : v < 128) : (I 36 q = Int32.ofNat v) ↔ tc I q = v := by
  obtain ⟨t1, t2, t3⟩ := tc_byte h hq
  rw [fa_eq, p_nI (by omega), t1]
  by_cases c8 : (tc I q : Int) < 128
  · rw [if_pos c8]; omega
  · rw [if_neg c8]; omega
def chK (k j : Nat) : Nat := tn ((sByt.getD k []).getD j 0)
theorem ch_ok : ∀ k, k < 11 → sLen.getD k 0 ≤ 5 ∧ ∀ j, j < sLen.getD k 0 → (((((sByt.getD k []).getD j 0) &&& (255)).toUInt32 % 65536).toInt32 = Int32.ofNat (chK k j) ∧ chK k j < 128) := by decide
theorem len_ok {N : Nat} {ρ : Rh} {I : Nat → Nat → Int32} {J : Nat → Nat → Int64} {k : Nat} (hk : k < 11) : f_J0_length_8abf5 N ρ I J k = some (Int32.ofNat (sLen.getD k 0)) := by
  have key : ∀ k, k < 11 → (Int32.ofNat (sLen.getD k 0)) >>> ((0 : Int32) &&& 31) = Int32.ofNat (sLen.getD k 0) := by decide
  unfold f_J0_length_8abf5 f_J0_coder_7d493
  simp only [Option.bind_some]
  rw [key k hk]
theorem chr_ok {N : Nat} {ρ : Rh} {I : Nat → Nat → Int32} {J : Nat → Nat → Int64} {k j : Nat} (hk : k < 11) (hj : j < sLen.getD k 0) : f_J0_charAt_5068e N ρ I J k (Int32.ofNat j) = some (Int32.ofNat (chK k j)) := by
  obtain ⟨h5, h6⟩ := ch_ok k hk
  unfold f_J0_charAt_5068e f_J0_isLatin1_aae02 f_J1_charAt_3b067 f_J0_checkIndex_df160 f_J3_checkIndex_8e157
  simp only [Option.bind_some]
  rw [if_neg (by decide), if_neg (by rw [fa_lt, p_nI (by omega)]; show ¬ _ < (0 : Int); omega), if_pos ((p_lt (by omega) (by omega)).mpr hj)]
  simp only [Option.bind_some]
  rw [if_pos (p_ixn hj (by omega)), p_tnI (by omega), (h6 j hj).1]
  rfl
theorem c_reads {N : Nat} (hN : 200 ≤ N) {ρ : Rh} {I : Nat → Nat → Int32} {J : Nat → Nat → Int64} {b n k : Nat} (hB : tBy I) (hb : b + n ≤ 160) (h6 : I 35 6 = Int32.ofNat b) (h7 : I 35 7 = Int32.ofNat (b + n)) (hk : k < 11) : ∃ r : Int32, f_X8_reads N ρ I J k = some r ∧ ((r = 1 ∧ n = sLen.getD k 0 ∧ ∀ j, j < sLen.getD k 0 → tc I (b + j) = chK k j) ∨ (r = 0 ∧ ¬ (n = sLen.getD k 0 ∧ ∀ j, j < sLen.getD k 0 → tc I (b + j) = chK k j))) := by
  obtain ⟨h5, hch⟩ := ch_ok k hk
  have e0 : Int32.ofNat (b + n) - Int32.ofNat b = Int32.ofNat n := by
    refine p_eq ?_
    rw [p_sub (by rw [p_nI (by omega), p_nI (by omega)]; omega) (by rw [p_nI (by omega), p_nI (by omega)]; omega), p_nI (by omega), p_nI (by omega), p_nI (by omega)]
    omega
  unfold f_X8_reads
  rw [len_ok hk, h6, h7, e0]
  simp only [Option.bind_some]
  by_cases hn : n = sLen.getD k 0
  · have loop : ∀ (e i fuel : Nat), i + e = sLen.getD k 0 → e < fuel → ∃ r, f_X8_reads_20 N I J ρ k fuel (Int32.ofNat i) = some r ∧ ((r = Sum.inr () ∧ ∀ j, i ≤ j → j < sLen.getD k 0 → tc I (b + j) = chK k j) ∨ (r = Sum.inl 0 ∧ ¬ ∀ j, i ≤ j → j < sLen.getD k 0 → tc I (b + j) = chK k j)) := by
      intro e
      induction e with
      | zero =>
        intro i fuel z1 z2
        cases fuel with
        | zero => omega
        | succ fuel =>
          refine ⟨Sum.inr (), ?_, Or.inl ⟨rfl, fun j j1 j2 => absurd j1 (by omega)⟩⟩
          rw [f_X8_reads_20.eq_2, len_ok hk]
          simp only [Option.bind_some]
          rw [if_pos ((p_ge (by omega) (by omega)).mpr (by omega))]
      | succ e ih =>
        intro i fuel z1 z2
        cases fuel with
        | zero => omega
        | succ fuel =>
          have eb : Int32.ofNat b + Int32.ofNat i = Int32.ofNat (b + i) := by
            refine p_eq ?_
            rw [p_add (by rw [p_nI (by omega), p_nI (by omega)]; omega) (by rw [p_nI (by omega), p_nI (by omega)]; omega), p_nI (by omega), p_nI (by omega), p_nI (by omega)]
            omega
          have st : f_X8_reads_20 N I J ρ k (fuel + 1) (Int32.ofNat i) = if I 36 (b + i) = Int32.ofNat (chK k i) then f_X8_reads_20 N I J ρ k fuel (Int32.ofNat (i + 1)) else some (Sum.inl 0) := by
            rw [f_X8_reads_20.eq_2, len_ok hk]
            simp only [Option.bind_some]
            rw [if_neg (fun z => absurd ((p_ge (by omega) (by omega)).mp z) (by omega)), h6, eb, if_pos (p_ixn (by omega) (by omega)), chr_ok hk (by omega)]
            simp only [Option.bind_some]
            rw [p_tnI (by omega), p_succ (by omega)]
          rw [st]
          by_cases q : tc I (b + i) = chK k i
          · rw [if_pos ((tc_is hB (by omega) (hch i (by omega)).2).mpr q)]
            obtain ⟨r, r1, r2⟩ := ih (i + 1) fuel (by omega) (by omega)
            refine ⟨r, r1, r2.imp (fun z => ⟨z.1, fun j j1 j2 => ?_⟩) (fun z => ⟨z.1, fun y => z.2 (fun j j1 j2 => y j (by omega) j2)⟩)⟩
            by_cases hj : j = i
            · subst hj; exact q
            · exact z.2 j (by omega) j2
          · rw [if_neg (fun z => q ((tc_is hB (by omega) (hch i (by omega)).2).mp z))]
            exact ⟨_, rfl, Or.inr ⟨rfl, fun y => q (y i (Nat.le_refl _) (by omega))⟩⟩
    obtain ⟨r, r1, r2⟩ := loop (sLen.getD k 0) 0 N (by omega) (by omega)
    rw [if_pos (by rw [hn]), show (0 : Int32) = Int32.ofNat 0 from rfl, r1]
    rcases r2 with ⟨r2, r3⟩ | ⟨r2, r3⟩
    · subst r2
      exact ⟨1, rfl, Or.inl ⟨rfl, hn, fun j hj => r3 j (Nat.zero_le _) hj⟩⟩
    · subst r2
      exact ⟨0, rfl, Or.inr ⟨rfl, fun y => r3 (fun j _ hj => y.2 j hj)⟩⟩
  · rw [if_neg (fun z => hn (by have := congrArg Int32.toInt z; rw [p_nI (by omega), p_nI (by omega)] at this; omega))]
    exact ⟨0, rfl, Or.inr ⟨rfl, fun y => hn y.1⟩⟩
theorem wm0 {c : Nat → Nat} {b n : Nat} (hn : n ≤ 5) (hl : ∀ i, i < n → 97 ≤ c (b + i) ∧ c (b + i) ≤ 122) : (n = sLen.getD 0 0 ∧ ∀ j, j < sLen.getD 0 0 → c (b + j) = chK 0 j) ↔ pkN c b n = 1852138852 := by
  have e : sLen.getD 0 0 = 4 := rfl
  rw [e]
  have k0 : chK 0 0 = 110 := by decide
  have k1 : chK 0 1 = 101 := by decide
  have k2 : chK 0 2 = 101 := by decide
  have k3 : chK 0 3 = 100 := by decide
  constructor
  · rintro ⟨rfl, h⟩
    have q0 := h 0 (by omega)
    have q1 := h 1 (by omega)
    have q2 := h 2 (by omega)
    have q3 := h 3 (by omega)
    simp only [pkN]
    rw [k0] at q0
    rw [k1] at q1
    rw [k2] at q2
    rw [k3] at q3
    omega
  · intro h
    have cs : n = 0 ∨ n = 1 ∨ n = 2 ∨ n = 3 ∨ n = 4 ∨ n = 5 := by omega
    rcases cs with rfl | rfl | rfl | rfl | rfl | rfl
    · simp only [pkN] at h
      omega
    · simp only [pkN] at h
      have l0 := hl 0 (by omega)
      omega
    · simp only [pkN] at h
      have l0 := hl 0 (by omega)
      have l1 := hl 1 (by omega)
      omega
    · simp only [pkN] at h
      have l0 := hl 0 (by omega)
      have l1 := hl 1 (by omega)
      have l2 := hl 2 (by omega)
      omega
    · simp only [pkN] at h
      have l0 := hl 0 (by omega)
      have l1 := hl 1 (by omega)
      have l2 := hl 2 (by omega)
      have l3 := hl 3 (by omega)
      refine ⟨rfl, fun j hj => ?_⟩
      have cj : j = 0 ∨ j = 1 ∨ j = 2 ∨ j = 3 := by omega
      rcases cj with rfl | rfl | rfl | rfl
      · rw [k0]; omega
      · rw [k1]; omega
      · rw [k2]; omega
      · rw [k3]; omega
    · simp only [pkN] at h
      have l0 := hl 0 (by omega)
      have l1 := hl 1 (by omega)
      have l2 := hl 2 (by omega)
      have l3 := hl 3 (by omega)
      have l4 := hl 4 (by omega)
      omega
theorem wm1 {c : Nat → Nat} {b n : Nat} (hn : n ≤ 5) (hl : ∀ i, i < n → 97 ≤ c (b + i) ∧ c (b + i) ≤ 122) : (n = sLen.getD 1 0 ∧ ∀ j, j < sLen.getD 1 0 → c (b + j) = chK 1 j) ↔ pkN c b n = 7499639 := by
  have e : sLen.getD 1 0 = 3 := rfl
  rw [e]
  have k0 : chK 1 0 = 114 := by decide
  have k1 : chK 1 1 = 111 := by decide
  have k2 : chK 1 2 = 119 := by decide
  constructor
  · rintro ⟨rfl, h⟩
    have q0 := h 0 (by omega)
    have q1 := h 1 (by omega)
    have q2 := h 2 (by omega)
    simp only [pkN]
    rw [k0] at q0
    rw [k1] at q1
    rw [k2] at q2
    omega
  · intro h
    have cs : n = 0 ∨ n = 1 ∨ n = 2 ∨ n = 3 ∨ n = 4 ∨ n = 5 := by omega
    rcases cs with rfl | rfl | rfl | rfl | rfl | rfl
    · simp only [pkN] at h
      omega
    · simp only [pkN] at h
      have l0 := hl 0 (by omega)
      omega
    · simp only [pkN] at h
      have l0 := hl 0 (by omega)
      have l1 := hl 1 (by omega)
      omega
    · simp only [pkN] at h
      have l0 := hl 0 (by omega)
      have l1 := hl 1 (by omega)
      have l2 := hl 2 (by omega)
      refine ⟨rfl, fun j hj => ?_⟩
      have cj : j = 0 ∨ j = 1 ∨ j = 2 := by omega
      rcases cj with rfl | rfl | rfl
      · rw [k0]; omega
      · rw [k1]; omega
      · rw [k2]; omega
    · simp only [pkN] at h
      have l0 := hl 0 (by omega)
      have l1 := hl 1 (by omega)
      have l2 := hl 2 (by omega)
      have l3 := hl 3 (by omega)
      omega
    · simp only [pkN] at h
      have l0 := hl 0 (by omega)
      have l1 := hl 1 (by omega)
      have l2 := hl 2 (by omega)
      have l3 := hl 3 (by omega)
      have l4 := hl 4 (by omega)
      omega
theorem wm2 {c : Nat → Nat} {b n : Nat} (hn : n ≤ 5) (hl : ∀ i, i < n → 97 ≤ c (b + i) ∧ c (b + i) ≤ 122) : (n = sLen.getD 2 0 ∧ ∀ j, j < sLen.getD 2 0 → c (b + j) = chK 2 j) ↔ pkN c b n = 28530 := by
  have e : sLen.getD 2 0 = 2 := rfl
  rw [e]
  have k0 : chK 2 0 = 111 := by decide
  have k1 : chK 2 1 = 114 := by decide
  constructor
  · rintro ⟨rfl, h⟩
    have q0 := h 0 (by omega)
    have q1 := h 1 (by omega)
    simp only [pkN]
    rw [k0] at q0
    rw [k1] at q1
    omega
  · intro h
    have cs : n = 0 ∨ n = 1 ∨ n = 2 ∨ n = 3 ∨ n = 4 ∨ n = 5 := by omega
    rcases cs with rfl | rfl | rfl | rfl | rfl | rfl
    · simp only [pkN] at h
      omega
    · simp only [pkN] at h
      have l0 := hl 0 (by omega)
      omega
    · simp only [pkN] at h
      have l0 := hl 0 (by omega)
      have l1 := hl 1 (by omega)
      refine ⟨rfl, fun j hj => ?_⟩
      have cj : j = 0 ∨ j = 1 := by omega
      rcases cj with rfl | rfl
      · rw [k0]; omega
      · rw [k1]; omega
    · simp only [pkN] at h
      have l0 := hl 0 (by omega)
      have l1 := hl 1 (by omega)
      have l2 := hl 2 (by omega)
      omega
    · simp only [pkN] at h
      have l0 := hl 0 (by omega)
      have l1 := hl 1 (by omega)
      have l2 := hl 2 (by omega)
      have l3 := hl 3 (by omega)
      omega
    · simp only [pkN] at h
      have l0 := hl 0 (by omega)
      have l1 := hl 1 (by omega)
      have l2 := hl 2 (by omega)
      have l3 := hl 3 (by omega)
      have l4 := hl 4 (by omega)
      omega
theorem wm3 {c : Nat → Nat} {b n : Nat} (hn : n ≤ 5) (hl : ∀ i, i < n → 97 ≤ c (b + i) ∧ c (b + i) ≤ 122) : (n = sLen.getD 3 0 ∧ ∀ j, j < sLen.getD 3 0 → c (b + j) = chK 3 j) ↔ pkN c b n = 6385252 := by
  have e : sLen.getD 3 0 = 3 := rfl
  rw [e]
  have k0 : chK 3 0 = 97 := by decide
  have k1 : chK 3 1 = 110 := by decide
  have k2 : chK 3 2 = 100 := by decide
  constructor
  · rintro ⟨rfl, h⟩
    have q0 := h 0 (by omega)
    have q1 := h 1 (by omega)
    have q2 := h 2 (by omega)
    simp only [pkN]
    rw [k0] at q0
    rw [k1] at q1
    rw [k2] at q2
    omega
  · intro h
    have cs : n = 0 ∨ n = 1 ∨ n = 2 ∨ n = 3 ∨ n = 4 ∨ n = 5 := by omega
    rcases cs with rfl | rfl | rfl | rfl | rfl | rfl
    · simp only [pkN] at h
      omega
    · simp only [pkN] at h
      have l0 := hl 0 (by omega)
      omega
    · simp only [pkN] at h
      have l0 := hl 0 (by omega)
      have l1 := hl 1 (by omega)
      omega
    · simp only [pkN] at h
      have l0 := hl 0 (by omega)
      have l1 := hl 1 (by omega)
      have l2 := hl 2 (by omega)
      refine ⟨rfl, fun j hj => ?_⟩
      have cj : j = 0 ∨ j = 1 ∨ j = 2 := by omega
      rcases cj with rfl | rfl | rfl
      · rw [k0]; omega
      · rw [k1]; omega
      · rw [k2]; omega
    · simp only [pkN] at h
      have l0 := hl 0 (by omega)
      have l1 := hl 1 (by omega)
      have l2 := hl 2 (by omega)
      have l3 := hl 3 (by omega)
      omega
    · simp only [pkN] at h
      have l0 := hl 0 (by omega)
      have l1 := hl 1 (by omega)
      have l2 := hl 2 (by omega)
      have l3 := hl 3 (by omega)
      have l4 := hl 4 (by omega)
      omega
theorem wm4 {c : Nat → Nat} {b n : Nat} (hn : n ≤ 5) (hl : ∀ i, i < n → 97 ≤ c (b + i) ∧ c (b + i) ≤ 122) : (n = sLen.getD 4 0 ∧ ∀ j, j < sLen.getD 4 0 → c (b + j) = chK 4 j) ↔ pkN c b n = 7237492 := by
  have e : sLen.getD 4 0 = 3 := rfl
  rw [e]
  have k0 : chK 4 0 = 110 := by decide
  have k1 : chK 4 1 = 111 := by decide
  have k2 : chK 4 2 = 116 := by decide
  constructor
  · rintro ⟨rfl, h⟩
    have q0 := h 0 (by omega)
    have q1 := h 1 (by omega)
    have q2 := h 2 (by omega)
    simp only [pkN]
    rw [k0] at q0
    rw [k1] at q1
    rw [k2] at q2
    omega
  · intro h
    have cs : n = 0 ∨ n = 1 ∨ n = 2 ∨ n = 3 ∨ n = 4 ∨ n = 5 := by omega
    rcases cs with rfl | rfl | rfl | rfl | rfl | rfl
    · simp only [pkN] at h
      omega
    · simp only [pkN] at h
      have l0 := hl 0 (by omega)
      omega
    · simp only [pkN] at h
      have l0 := hl 0 (by omega)
      have l1 := hl 1 (by omega)
      omega
    · simp only [pkN] at h
      have l0 := hl 0 (by omega)
      have l1 := hl 1 (by omega)
      have l2 := hl 2 (by omega)
      refine ⟨rfl, fun j hj => ?_⟩
      have cj : j = 0 ∨ j = 1 ∨ j = 2 := by omega
      rcases cj with rfl | rfl | rfl
      · rw [k0]; omega
      · rw [k1]; omega
      · rw [k2]; omega
    · simp only [pkN] at h
      have l0 := hl 0 (by omega)
      have l1 := hl 1 (by omega)
      have l2 := hl 2 (by omega)
      have l3 := hl 3 (by omega)
      omega
    · simp only [pkN] at h
      have l0 := hl 0 (by omega)
      have l1 := hl 1 (by omega)
      have l2 := hl 2 (by omega)
      have l3 := hl 3 (by omega)
      have l4 := hl 4 (by omega)
      omega
theorem wm5 {c : Nat → Nat} {b n : Nat} (hn : n ≤ 5) (hl : ∀ i, i < n → 97 ≤ c (b + i) ∧ c (b + i) ≤ 122) : (n = sLen.getD 5 0 ∧ ∀ j, j < sLen.getD 5 0 → c (b + j) = chK 5 j) ↔ pkN c b n = 495874699877 := by
  have e : sLen.getD 5 0 = 5 := rfl
  rw [e]
  have k0 : chK 5 0 = 115 := by decide
  have k1 : chK 5 1 = 116 := by decide
  have k2 : chK 5 2 = 111 := by decide
  have k3 : chK 5 3 = 114 := by decide
  have k4 : chK 5 4 = 101 := by decide
  constructor
  · rintro ⟨rfl, h⟩
    have q0 := h 0 (by omega)
    have q1 := h 1 (by omega)
    have q2 := h 2 (by omega)
    have q3 := h 3 (by omega)
    have q4 := h 4 (by omega)
    simp only [pkN]
    rw [k0] at q0
    rw [k1] at q1
    rw [k2] at q2
    rw [k3] at q3
    rw [k4] at q4
    omega
  · intro h
    have cs : n = 0 ∨ n = 1 ∨ n = 2 ∨ n = 3 ∨ n = 4 ∨ n = 5 := by omega
    rcases cs with rfl | rfl | rfl | rfl | rfl | rfl
    · simp only [pkN] at h
      omega
    · simp only [pkN] at h
      have l0 := hl 0 (by omega)
      omega
    · simp only [pkN] at h
      have l0 := hl 0 (by omega)
      have l1 := hl 1 (by omega)
      omega
    · simp only [pkN] at h
      have l0 := hl 0 (by omega)
      have l1 := hl 1 (by omega)
      have l2 := hl 2 (by omega)
      omega
    · simp only [pkN] at h
      have l0 := hl 0 (by omega)
      have l1 := hl 1 (by omega)
      have l2 := hl 2 (by omega)
      have l3 := hl 3 (by omega)
      omega
    · simp only [pkN] at h
      have l0 := hl 0 (by omega)
      have l1 := hl 1 (by omega)
      have l2 := hl 2 (by omega)
      have l3 := hl 3 (by omega)
      have l4 := hl 4 (by omega)
      refine ⟨rfl, fun j hj => ?_⟩
      have cj : j = 0 ∨ j = 1 ∨ j = 2 ∨ j = 3 ∨ j = 4 := by omega
      rcases cj with rfl | rfl | rfl | rfl | rfl
      · rw [k0]; omega
      · rw [k1]; omega
      · rw [k2]; omega
      · rw [k3]; omega
      · rw [k4]; omega
theorem wm6 {c : Nat → Nat} {b n : Nat} (hn : n ≤ 5) (hl : ∀ i, i < n → 97 ≤ c (b + i) ∧ c (b + i) ≤ 122) : (n = sLen.getD 6 0 ∧ ∀ j, j < sLen.getD 6 0 → c (b + j) = chK 6 j) ↔ pkN c b n = 1919907699 := by
  have e : sLen.getD 6 0 = 4 := rfl
  rw [e]
  have k0 : chK 6 0 = 114 := by decide
  have k1 : chK 6 1 = 111 := by decide
  have k2 : chK 6 2 = 119 := by decide
  have k3 : chK 6 3 = 115 := by decide
  constructor
  · rintro ⟨rfl, h⟩
    have q0 := h 0 (by omega)
    have q1 := h 1 (by omega)
    have q2 := h 2 (by omega)
    have q3 := h 3 (by omega)
    simp only [pkN]
    rw [k0] at q0
    rw [k1] at q1
    rw [k2] at q2
    rw [k3] at q3
    omega
  · intro h
    have cs : n = 0 ∨ n = 1 ∨ n = 2 ∨ n = 3 ∨ n = 4 ∨ n = 5 := by omega
    rcases cs with rfl | rfl | rfl | rfl | rfl | rfl
    · simp only [pkN] at h
      omega
    · simp only [pkN] at h
      have l0 := hl 0 (by omega)
      omega
    · simp only [pkN] at h
      have l0 := hl 0 (by omega)
      have l1 := hl 1 (by omega)
      omega
    · simp only [pkN] at h
      have l0 := hl 0 (by omega)
      have l1 := hl 1 (by omega)
      have l2 := hl 2 (by omega)
      omega
    · simp only [pkN] at h
      have l0 := hl 0 (by omega)
      have l1 := hl 1 (by omega)
      have l2 := hl 2 (by omega)
      have l3 := hl 3 (by omega)
      refine ⟨rfl, fun j hj => ?_⟩
      have cj : j = 0 ∨ j = 1 ∨ j = 2 ∨ j = 3 := by omega
      rcases cj with rfl | rfl | rfl | rfl
      · rw [k0]; omega
      · rw [k1]; omega
      · rw [k2]; omega
      · rw [k3]; omega
    · simp only [pkN] at h
      have l0 := hl 0 (by omega)
      have l1 := hl 1 (by omega)
      have l2 := hl 2 (by omega)
      have l3 := hl 3 (by omega)
      have l4 := hl 4 (by omega)
      omega
theorem wm7 {c : Nat → Nat} {b n : Nat} (hn : n ≤ 5) (hl : ∀ i, i < n → 97 ≤ c (b + i) ∧ c (b + i) ≤ 122) : (n = sLen.getD 7 0 ∧ ∀ j, j < sLen.getD 7 0 → c (b + j) = chK 7 j) ↔ pkN c b n = 6578553 := by
  have e : sLen.getD 7 0 = 3 := rfl
  rw [e]
  have k0 : chK 7 0 = 100 := by decide
  have k1 : chK 7 1 = 97 := by decide
  have k2 : chK 7 2 = 121 := by decide
  constructor
  · rintro ⟨rfl, h⟩
    have q0 := h 0 (by omega)
    have q1 := h 1 (by omega)
    have q2 := h 2 (by omega)
    simp only [pkN]
    rw [k0] at q0
    rw [k1] at q1
    rw [k2] at q2
    omega
  · intro h
    have cs : n = 0 ∨ n = 1 ∨ n = 2 ∨ n = 3 ∨ n = 4 ∨ n = 5 := by omega
    rcases cs with rfl | rfl | rfl | rfl | rfl | rfl
    · simp only [pkN] at h
      omega
    · simp only [pkN] at h
      have l0 := hl 0 (by omega)
      omega
    · simp only [pkN] at h
      have l0 := hl 0 (by omega)
      have l1 := hl 1 (by omega)
      omega
    · simp only [pkN] at h
      have l0 := hl 0 (by omega)
      have l1 := hl 1 (by omega)
      have l2 := hl 2 (by omega)
      refine ⟨rfl, fun j hj => ?_⟩
      have cj : j = 0 ∨ j = 1 ∨ j = 2 := by omega
      rcases cj with rfl | rfl | rfl
      · rw [k0]; omega
      · rw [k1]; omega
      · rw [k2]; omega
    · simp only [pkN] at h
      have l0 := hl 0 (by omega)
      have l1 := hl 1 (by omega)
      have l2 := hl 2 (by omega)
      have l3 := hl 3 (by omega)
      omega
    · simp only [pkN] at h
      have l0 := hl 0 (by omega)
      have l1 := hl 1 (by omega)
      have l2 := hl 2 (by omega)
      have l3 := hl 3 (by omega)
      have l4 := hl 4 (by omega)
      omega
theorem wm8 {c : Nat → Nat} {b n : Nat} (hn : n ≤ 5) (hl : ∀ i, i < n → 97 ≤ c (b + i) ∧ c (b + i) ≤ 122) : (n = sLen.getD 8 0 ∧ ∀ j, j < sLen.getD 8 0 → c (b + j) = chK 8 j) ↔ pkN c b n = 495672455781 := by
  have e : sLen.getD 8 0 = 5 := rfl
  rw [e]
  have k0 : chK 8 0 = 115 := by decide
  have k1 : chK 8 1 = 104 := by decide
  have k2 : chK 8 2 = 97 := by decide
  have k3 : chK 8 3 = 114 := by decide
  have k4 : chK 8 4 = 101 := by decide
  constructor
  · rintro ⟨rfl, h⟩
    have q0 := h 0 (by omega)
    have q1 := h 1 (by omega)
    have q2 := h 2 (by omega)
    have q3 := h 3 (by omega)
    have q4 := h 4 (by omega)
    simp only [pkN]
    rw [k0] at q0
    rw [k1] at q1
    rw [k2] at q2
    rw [k3] at q3
    rw [k4] at q4
    omega
  · intro h
    have cs : n = 0 ∨ n = 1 ∨ n = 2 ∨ n = 3 ∨ n = 4 ∨ n = 5 := by omega
    rcases cs with rfl | rfl | rfl | rfl | rfl | rfl
    · simp only [pkN] at h
      omega
    · simp only [pkN] at h
      have l0 := hl 0 (by omega)
      omega
    · simp only [pkN] at h
      have l0 := hl 0 (by omega)
      have l1 := hl 1 (by omega)
      omega
    · simp only [pkN] at h
      have l0 := hl 0 (by omega)
      have l1 := hl 1 (by omega)
      have l2 := hl 2 (by omega)
      omega
    · simp only [pkN] at h
      have l0 := hl 0 (by omega)
      have l1 := hl 1 (by omega)
      have l2 := hl 2 (by omega)
      have l3 := hl 3 (by omega)
      omega
    · simp only [pkN] at h
      have l0 := hl 0 (by omega)
      have l1 := hl 1 (by omega)
      have l2 := hl 2 (by omega)
      have l3 := hl 3 (by omega)
      have l4 := hl 4 (by omega)
      refine ⟨rfl, fun j hj => ?_⟩
      have cj : j = 0 ∨ j = 1 ∨ j = 2 ∨ j = 3 ∨ j = 4 := by omega
      rcases cj with rfl | rfl | rfl | rfl | rfl
      · rw [k0]; omega
      · rw [k1]; omega
      · rw [k2]; omega
      · rw [k3]; omega
      · rw [k4]; omega
theorem wm9 {c : Nat → Nat} {b n : Nat} (hn : n ≤ 5) (hl : ∀ i, i < n → 97 ≤ c (b + i) ∧ c (b + i) ≤ 122) : (n = sLen.getD 9 0 ∧ ∀ j, j < sLen.getD 9 0 → c (b + j) = chK 9 j) ↔ pkN c b n = 418430678629 := by
  have e : sLen.getD 9 0 = 5 := rfl
  rw [e]
  have k0 : chK 9 0 = 97 := by decide
  have k1 : chK 9 1 = 108 := by decide
  have k2 : chK 9 2 = 105 := by decide
  have k3 : chK 9 3 = 118 := by decide
  have k4 : chK 9 4 = 101 := by decide
  constructor
  · rintro ⟨rfl, h⟩
    have q0 := h 0 (by omega)
    have q1 := h 1 (by omega)
    have q2 := h 2 (by omega)
    have q3 := h 3 (by omega)
    have q4 := h 4 (by omega)
    simp only [pkN]
    rw [k0] at q0
    rw [k1] at q1
    rw [k2] at q2
    rw [k3] at q3
    rw [k4] at q4
    omega
  · intro h
    have cs : n = 0 ∨ n = 1 ∨ n = 2 ∨ n = 3 ∨ n = 4 ∨ n = 5 := by omega
    rcases cs with rfl | rfl | rfl | rfl | rfl | rfl
    · simp only [pkN] at h
      omega
    · simp only [pkN] at h
      have l0 := hl 0 (by omega)
      omega
    · simp only [pkN] at h
      have l0 := hl 0 (by omega)
      have l1 := hl 1 (by omega)
      omega
    · simp only [pkN] at h
      have l0 := hl 0 (by omega)
      have l1 := hl 1 (by omega)
      have l2 := hl 2 (by omega)
      omega
    · simp only [pkN] at h
      have l0 := hl 0 (by omega)
      have l1 := hl 1 (by omega)
      have l2 := hl 2 (by omega)
      have l3 := hl 3 (by omega)
      omega
    · simp only [pkN] at h
      have l0 := hl 0 (by omega)
      have l1 := hl 1 (by omega)
      have l2 := hl 2 (by omega)
      have l3 := hl 3 (by omega)
      have l4 := hl 4 (by omega)
      refine ⟨rfl, fun j hj => ?_⟩
      have cj : j = 0 ∨ j = 1 ∨ j = 2 ∨ j = 3 ∨ j = 4 := by omega
      rcases cj with rfl | rfl | rfl | rfl | rfl
      · rw [k0]; omega
      · rw [k1]; omega
      · rw [k2]; omega
      · rw [k3]; omega
      · rw [k4]; omega
theorem wm10 {c : Nat → Nat} {b n : Nat} (hn : n ≤ 5) (hl : ∀ i, i < n → 97 ≤ c (b + i) ∧ c (b + i) ≤ 122) : (n = sLen.getD 10 0 ∧ ∀ j, j < sLen.getD 10 0 → c (b + j) = chK 10 j) ↔ pkN c b n = 1836020325 := by
  have e : sLen.getD 10 0 = 4 := rfl
  rw [e]
  have k0 : chK 10 0 = 109 := by decide
  have k1 : chK 10 1 = 111 := by decide
  have k2 : chK 10 2 = 114 := by decide
  have k3 : chK 10 3 = 101 := by decide
  constructor
  · rintro ⟨rfl, h⟩
    have q0 := h 0 (by omega)
    have q1 := h 1 (by omega)
    have q2 := h 2 (by omega)
    have q3 := h 3 (by omega)
    simp only [pkN]
    rw [k0] at q0
    rw [k1] at q1
    rw [k2] at q2
    rw [k3] at q3
    omega
  · intro h
    have cs : n = 0 ∨ n = 1 ∨ n = 2 ∨ n = 3 ∨ n = 4 ∨ n = 5 := by omega
    rcases cs with rfl | rfl | rfl | rfl | rfl | rfl
    · simp only [pkN] at h
      omega
    · simp only [pkN] at h
      have l0 := hl 0 (by omega)
      omega
    · simp only [pkN] at h
      have l0 := hl 0 (by omega)
      have l1 := hl 1 (by omega)
      omega
    · simp only [pkN] at h
      have l0 := hl 0 (by omega)
      have l1 := hl 1 (by omega)
      have l2 := hl 2 (by omega)
      omega
    · simp only [pkN] at h
      have l0 := hl 0 (by omega)
      have l1 := hl 1 (by omega)
      have l2 := hl 2 (by omega)
      have l3 := hl 3 (by omega)
      refine ⟨rfl, fun j hj => ?_⟩
      have cj : j = 0 ∨ j = 1 ∨ j = 2 ∨ j = 3 := by omega
      rcases cj with rfl | rfl | rfl | rfl
      · rw [k0]; omega
      · rw [k1]; omega
      · rw [k2]; omega
      · rw [k3]; omega
    · simp only [pkN] at h
      have l0 := hl 0 (by omega)
      have l1 := hl 1 (by omega)
      have l2 := hl 2 (by omega)
      have l3 := hl 3 (by omega)
      have l4 := hl 4 (by omega)
      omega
theorem c_word {N : Nat} (hN : 200 ≤ N) {ρ : Rh} {I : Nat → Nat → Int32} {J : Nat → Nat → Int64} {b n : Nat} (hB : tBy I) (hb : b + n ≤ 160) (h6 : I 35 6 = Int32.ofNat b) (h7 : I 35 7 = Int32.ofNat (b + n)) (hl : ∀ i, i < n → 97 ≤ tc I (b + i) ∧ tc I (b + i) ≤ 122) : f_X8_word N ρ I J = some (if n ≤ 5 then wcd (pkN (tc I) b n) else -22) := by
  have R : ∀ k, k < 11 → n ≤ 5 → ∀ W : Nat, ((n = sLen.getD k 0 ∧ ∀ j, j < sLen.getD k 0 → tc I (b + j) = chK k j) ↔ pkN (tc I) b n = W) → f_X8_reads N ρ I J k = some (if pkN (tc I) b n = W then 1 else 0) := by
    intro k hk hn W hW
    obtain ⟨r, r1, r2⟩ := c_reads hN (ρ := ρ) (J := J) hB hb h6 h7 hk
    rw [r1]
    rcases r2 with ⟨r2, r3⟩ | ⟨r2, r3⟩
    · rw [if_pos (hW.mp r3), r2]
    · rw [if_neg (fun z => r3 (hW.mpr z)), r2]
  have R0 : ∀ k, k < 11 → ¬ n ≤ 5 → f_X8_reads N ρ I J k = some 0 := by
    intro k hk hn
    obtain ⟨r, r1, r2⟩ := c_reads hN (ρ := ρ) (J := J) hB hb h6 h7 hk
    rw [r1]
    rcases r2 with ⟨r2, r3, r4⟩ | ⟨r2, r3⟩
    · have := (ch_ok k hk).1; omega
    · rw [r2]
  by_cases hn : n ≤ 5
  · rw [if_pos hn]
    unfold f_X8_word
    have e0 := R 0 (by decide) hn 1852138852 (wm0 hn hl)
    have e1 := R 1 (by decide) hn 7499639 (wm1 hn hl)
    have e2 := R 2 (by decide) hn 28530 (wm2 hn hl)
    have e3 := R 3 (by decide) hn 6385252 (wm3 hn hl)
    have e4 := R 4 (by decide) hn 7237492 (wm4 hn hl)
    have e5 := R 5 (by decide) hn 495874699877 (wm5 hn hl)
    have e6 := R 6 (by decide) hn 1919907699 (wm6 hn hl)
    have e7 := R 7 (by decide) hn 6578553 (wm7 hn hl)
    have e8 := R 8 (by decide) hn 495672455781 (wm8 hn hl)
    have e9 := R 9 (by decide) hn 418430678629 (wm9 hn hl)
    have e10 := R 10 (by decide) hn 1836020325 (wm10 hn hl)
    simp only [e0, e1, e2, e3, e4, e5, e6, e7, e8, e9, e10, Option.bind_some, p_b01]
    unfold wcd
    generalize pkN (tc I) b n = x
    by_cases a0 : x = 1852138852
    · subst a0; simp
    by_cases a1 : x = 7499639
    · subst a1; simp
    by_cases a2 : x = 28530
    · subst a2; simp
    by_cases a3 : x = 6385252
    · subst a3; simp
    by_cases a4 : x = 7237492
    · subst a4; simp
    by_cases a5 : x = 495874699877
    · subst a5; simp
    by_cases a6 : x = 1919907699
    · subst a6; simp
    by_cases a7 : x = 6578553
    · subst a7; simp
    by_cases a8 : x = 495672455781
    · subst a8; simp
    by_cases a9 : x = 418430678629
    · subst a9; simp
    by_cases a10 : x = 1836020325
    · subst a10; simp
    simp [a0, a1, a2, a3, a4, a5, a6, a7, a8, a9, a10]
  · rw [if_neg hn]
    unfold f_X8_word
    simp only [R0 0 (by decide) hn, R0 1 (by decide) hn, R0 2 (by decide) hn, R0 3 (by decide) hn, R0 4 (by decide) hn, R0 5 (by decide) hn, R0 6 (by decide) hn, R0 7 (by decide) hn, R0 8 (by decide) hn, R0 9 (by decide) hn, R0 10 (by decide) hn, Option.bind_some, if_true]
theorem c_number {N : Nat} (hN : 200 ≤ N) {ρ : Rh} {I : Nat → Nat → Int32} {J : Nat → Nat → Int64} {b n : Nat} (hB : tBy I) (hb : b + n ≤ 160) (h6 : I 35 6 = Int32.ofNat b) (h7 : I 35 7 = Int32.ofNat (b + n)) (hl : ∀ i, i < n → 48 ≤ tc I (b + i) ∧ tc I (b + i) ≤ 57) : f_X8_number N ρ I J = some (if n ≤ 4 then Int32.ofNat (nvN (tc I) b n) else -22) := by
  have e0 : Int32.ofNat (b + n) - Int32.ofNat b = Int32.ofNat n := by
    refine p_eq ?_
    rw [p_sub (by rw [p_nI (by omega), p_nI (by omega)]; omega) (by rw [p_nI (by omega), p_nI (by omega)]; omega), p_nI (by omega), p_nI (by omega), p_nI (by omega)]
    omega
  unfold f_X8_number
  rw [h6, h7, e0]
  by_cases hn : n ≤ 4
  · have bnd4 : ∀ i, i ≤ n → nvN (tc I) b i < 10000 := by
      intro i hi
      have h1 := nvN_le (c := tc I) (b := b) (n := i) (fun j hj => (hl j (by omega)).2)
      have h2 := Nat.pow_le_pow_right (n := 10) (by decide) (show i ≤ 4 by omega)
      have h3 : (10 : Nat) ^ 4 = 10000 := by decide
      omega
    have loop : ∀ (e i fuel : Nat), i + e = n → e < fuel → f_X8_number_23 N I J ρ fuel (Int32.ofNat (nvN (tc I) b i)) (Int32.ofNat (b + i)) = some (Int32.ofNat (nvN (tc I) b n)) := by
      intro e
      induction e with
      | zero =>
        intro i fuel z1 z2
        cases fuel with
        | zero => omega
        | succ fuel => rw [f_X8_number_23.eq_2, h7, if_pos ((p_ge (by omega) (by omega)).mpr (by omega)), show i = n by omega]
      | succ e ih =>
        intro i fuel z1 z2
        cases fuel with
        | zero => omega
        | succ fuel =>
          have a1 := bnd4 i (by omega)
          have a2 := bnd4 (i + 1) (by omega)
          have a3 := hl i (by omega)
          obtain ⟨t1, t2, t3⟩ := tc_byte hB (k := b + i) (by omega)
          rw [if_pos (by omega)] at t1
          have s1 := p_nI (n := nvN (tc I) b i) (by omega)
          have m1 : (10 * Int32.ofNat (nvN (tc I) b i)).toInt = 10 * (nvN (tc I) b i : Int) := by
            rw [p_mul (a := 10) (by rw [s1]; show _ ≤ (10 : Int) * _; omega) (by rw [s1]; show (10 : Int) * _ < _; omega), s1]; rfl
          have m2 : (I 36 (b + i) - 48).toInt = (tc I (b + i) : Int) - 48 := by
            rw [p_sub (b := 48) (by rw [t1]; show _ ≤ _ - (48 : Int); omega) (by rw [t1]; show _ - (48 : Int) < _; omega), t1]; rfl
          have ev : 10 * Int32.ofNat (nvN (tc I) b i) + (I 36 (b + i) - 48) = Int32.ofNat (nvN (tc I) b (i + 1)) := by
            have e1 : nvN (tc I) b (i + 1) = 10 * nvN (tc I) b i + (tc I (b + i) - 48) := rfl
            refine p_eq ?_
            rw [p_add (by omega) (by omega), m1, m2, p_nI (by omega), e1]
            omega
          rw [f_X8_number_23.eq_2, h7, if_neg (fun z => absurd ((p_ge (by omega) (by omega)).mp z) (by omega)), if_pos (p_ixn (by omega) (by omega)), p_tnI (by omega)]
          simp only [bnd]
          rw [ev, p_succ (by omega)]
          exact ih (i + 1) fuel (by omega) (by omega)
    have L := loop n 0 N (by omega) (by omega)
    rw [Nat.add_zero] at L
    rw [if_pos (by rw [fa_le, p_nI (by omega)]; show _ ≤ (4 : Int); omega), if_pos hn]
    rw [show Int32.ofNat (nvN (tc I) b 0) = (0 : Int32) from rfl] at L
    rw [L]
    rfl
  · rw [if_neg (by rw [fa_le, p_nI (by omega)]; show ¬ _ ≤ (4 : Int); omega), if_neg hn]
theorem c_sign {N : Nat} {ρ : Rh} {I X : Nat → Nat → Int32} {J : Nat → Nat → Int64} {q : Nat} (hB : tBy I) (hq : q < 160) : f_X8_sign N ρ X J (I 36 q) = some (sgn (tc I q)) := by
  have T : ∀ v : Nat, v < 128 → (I 36 q = Int32.ofNat v ↔ tc I q = v) := fun v hv => tc_is hB hq hv
  unfold f_X8_sign sgn
  by_cases a40 : tc I q = 40
  · rw [if_pos (show I 36 q = 40 from (T 40 (by decide)).mpr a40), if_pos a40]
  rw [if_neg (show ¬ I 36 q = 40 from fun z => a40 ((T 40 (by decide)).mp z)), if_neg a40]
  by_cases a41 : tc I q = 41
  · rw [if_pos (show I 36 q = 41 from (T 41 (by decide)).mpr a41), if_pos a41]
  rw [if_neg (show ¬ I 36 q = 41 from fun z => a41 ((T 41 (by decide)).mp z)), if_neg a41]
  by_cases a42 : tc I q = 42
  · rw [if_pos (show I 36 q = 42 from (T 42 (by decide)).mpr a42), if_pos a42]
  rw [if_neg (show ¬ I 36 q = 42 from fun z => a42 ((T 42 (by decide)).mp z)), if_neg a42]
  by_cases a43 : tc I q = 43
  · rw [if_pos (show I 36 q = 43 from (T 43 (by decide)).mpr a43), if_pos a43]
  rw [if_neg (show ¬ I 36 q = 43 from fun z => a43 ((T 43 (by decide)).mp z)), if_neg a43]
  by_cases a45 : tc I q = 45
  · rw [if_pos (show I 36 q = 45 from (T 45 (by decide)).mpr a45), if_pos a45]
  rw [if_neg (show ¬ I 36 q = 45 from fun z => a45 ((T 45 (by decide)).mp z)), if_neg a45]
  by_cases a59 : tc I q = 59
  · rw [if_pos (show I 36 q = 59 from (T 59 (by decide)).mpr a59), if_pos a59]
  rw [if_neg (show ¬ I 36 q = 59 from fun z => a59 ((T 59 (by decide)).mp z)), if_neg a59]
  by_cases a60 : tc I q = 60
  · rw [if_pos (show I 36 q = 60 from (T 60 (by decide)).mpr a60), if_pos a60]
  rw [if_neg (show ¬ I 36 q = 60 from fun z => a60 ((T 60 (by decide)).mp z)), if_neg a60]
  by_cases a61 : tc I q = 61
  · rw [if_pos (show I 36 q = 61 from (T 61 (by decide)).mpr a61), if_pos a61]
  rw [if_neg (show ¬ I 36 q = 61 from fun z => a61 ((T 61 (by decide)).mp z)), if_neg a61]
