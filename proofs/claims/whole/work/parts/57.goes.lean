/-! ===== the pure layer: the model's voyage, loops ===== -/
def MT (b j : Nat) : Prop := (b = 89 ∧ j = 23) ∨ (100 ≤ b ∧ b ≤ 103) ∨ b = 112 ∨ b = 113
def moff (I0 I : Nat → Nat → Int32) : Prop := ∀ b j, ¬ MT b j → I b j = I0 b j
theorem moff.to {I0 I I' : Nat → Nat → Int32} (h : moff I0 I) (h2 : ∀ b k, ¬ MT b k → I' b k = I b k) : moff I0 I' := fun b k z => (h2 b k z).trans (h b k z)
def mB (N : Nat) (ρ : Rh) (J : Nat → Nat → Int64) (P : VP) (r : Nat) (set : Int32) (I0 : Nat → Nat → Int32) : Prop :=
  (I0 89 0 = Int32.ofNat (vmn P) ∧ vmn P ≤ 8 ∧ r < 8) ∧ (∀ m, m < vmn P → I0 91 m = vrw P m) ∧ (I0 89 5 = vra P ∧ 0 ≤ (vra P).toInt ∧ (vra P).toInt ≤ 99) ∧ (∀ m, m < vmn P → ((((set) >>> (Int32.ofNat m &&& 31)) &&& 1) = 1 ↔ vkb P m = true)) ∧ I0 89 6 = vmi P ∧ (∀ q, q < 12 → I0 93 q = vrn P q ∧ bw (vrn P q) 0 50) ∧ I0 95 r = vmo P ∧
  (∀ (I : Nat → Nat → Int32), moff I0 I → ∀ (d m : Nat) (st many ah : Int32), m < vmn P → d < 12 → 0 < many.toInt → I 100 (8 * d + m) = st → f_X12_share N ρ I J (Int32.ofNat r) (Int32.ofNat m) (Int32.ofNat d) ah many = some (vsh P (Int32.ofNat d) st many ah m)) ∧
  (∀ (d st many ah : Int32) (m : Nat), m < vmn P → 0 < many.toInt → 0 ≤ (vsh P d st many ah m).toInt) ∧
  (∀ (I : Nat → Nat → Int32) (nm : Nat → Int32) (most : Int32), moff I0 I → (∀ q, q < 6 → I 113 q = nm q) → ∃ I', f_X12_worth N ρ I J 1 most = some (I', cl (vro P nm) most) ∧ ∀ x q, ¬ x = 112 → I' x q = I x q) ∧
  (∀ (I : Nat → Nat → Int32) (nm : Nat → Int32) (most : Int32), moff I0 I → (∀ q, q < 6 → I 113 q = nm q) → ∃ I', f_X12_worth N ρ I J 0 most = some (I', cl (vnd P nm) most) ∧ ∀ x q, ¬ x = 112 → I' x q = I x q)
theorem m_living {N : Nat} {ρ : Rh} {J : Nat → Nat → Int64} {I : Nat → Nat → Int32} {n d : Nat} (hn : I 89 0 = Int32.ofNat n) (hn8 : n ≤ 8) (hd : d < 13) (hN : 200 ≤ N) : f_X12_living N ρ I J (Int32.ofNat d) = some (vliv (fun m => I 100 (8 * d + m)) n) := by
  have loop : ∀ (e k fuel : Nat), k + e = n → e < fuel → f_X12_living_4 N I J ρ (Int32.ofNat d) fuel (vliv (fun m => I 100 (8 * d + m)) k) (Int32.ofNat k) = some (vliv (fun m => I 100 (8 * d + m)) n) := by
    intro e
    induction e with
    | zero =>
      intro k fuel z1 z2
      cases fuel with
      | zero => omega
      | succ fuel =>
        rw [f_X12_living_4.eq_2, hn, if_pos ((p_ge (by omega) (by omega)).mpr (by omega)), show k = n by omega]
    | succ e ih =>
      intro k fuel z1 z2
      cases fuel with
      | zero => omega
      | succ fuel =>
        rw [f_X12_living_4.eq_2, hn, if_neg (fun z => absurd ((p_ge (by omega) (by omega)).mp z) (by omega)), p_lin8 (by omega), if_pos (p_ixn (by omega) (by omega)), p_tnI (by omega)]
        have e1 : vliv (fun m => I 100 (8 * d + m)) (k + 1) = if I 100 (8 * d + k) ≤ 0 then vliv (fun m => I 100 (8 * d + m)) k else vliv (fun m => I 100 (8 * d + m)) k + 1 := rfl
        have := ih (k + 1) fuel (by omega) (by omega)
        by_cases h0 : I 100 (8 * d + k) ≤ 0
        · rw [if_pos h0] at e1
          rw [if_pos h0]
          simp only [Option.bind_some]
          rw [p_succ (by omega), Int32.add_zero, ← e1]
          exact this
        · rw [if_neg h0] at e1
          rw [if_neg h0]
          simp only [Option.bind_some]
          rw [p_succ (by omega), ← e1]
          exact this
  unfold f_X12_living
  have := loop n 0 N (by omega) (by omega)
  rw [show Int32.ofNat 0 = (0 : Int32) from rfl] at this
  rw [show (vliv (fun m => I 100 (8 * d + m)) 0) = (0 : Int32) from rfl] at this
  rw [this]
  rfl
theorem kdb_if {P : VP} {m : Nat} {x : Int32} {set : Int32} (hb : (((set) >>> (Int32.ofNat m &&& 31)) &&& 1) = 1 ↔ vkb P m = true) : (kdb P m x = true ↔ ¬ x ≤ 0 ∧ (((set) >>> (Int32.ofNat m &&& 31)) &&& 1) = 1) := by
  unfold kdb
  by_cases h0 : x ≤ 0
  · rw [if_pos h0]
    exact ⟨fun z => absurd z (by decide), fun z => absurd h0 z.1⟩
  · rw [if_neg h0]
    exact ⟨fun z => ⟨h0, hb.mpr z⟩, fun z => hb.mp z.2⟩
theorem m_drinkers {N : Nat} {ρ : Rh} {J : Nat → Nat → Int64} {P : VP} {r : Nat} {set : Int32} {I0 I : Nat → Nat → Int32} (hB : mB N ρ J P r set I0) (ho : moff I0 I) {d : Nat} {s : Nat → Int32} (hd : d < 12) (hs : ∀ m, m < vmn P → I 100 (8 * d + m) = s m) (hN : 200 ≤ N) : f_X12_drinkers N ρ I J (Int32.ofNat d) set = some (vcnt P s (vmn P)) := by
  have hn : I 89 0 = Int32.ofNat (vmn P) := (ho 89 0 (by unfold MT; omega)).trans hB.1.1
  have h8 := hB.1.2.1
  have loop : ∀ (e k fuel : Nat), k + e = vmn P → e < fuel → f_X12_drinkers_5 N I J ρ (Int32.ofNat d) set fuel (vcnt P s k) (Int32.ofNat k) = some (vcnt P s (vmn P)) := by
    intro e
    induction e with
    | zero =>
      intro k fuel z1 z2
      cases fuel with
      | zero => omega
      | succ fuel =>
        rw [f_X12_drinkers_5.eq_2, hn, if_pos ((p_ge (by omega) (by omega)).mpr (by omega)), show k = vmn P by omega]
    | succ e ih =>
      intro k fuel z1 z2
      cases fuel with
      | zero => omega
      | succ fuel =>
        have hk := kdb_if (x := s k) (hB.2.2.2.1 k (by omega))
        have e1 : vcnt P s (k + 1) = if kdb P k (s k) = true then vcnt P s k + 1 else vcnt P s k := rfl
        have := ih (k + 1) fuel (by omega) (by omega)
        rw [f_X12_drinkers_5.eq_2, hn, if_neg (fun z => absurd ((p_ge (by omega) (by omega)).mp z) (by omega)), p_lin8 (by omega), p_tnI (by omega), hs k (by omega)]
        have x := p_ixn (k := 8 * d + k) (n := 104) (by omega) (by omega)
        rw [p_tnI (by omega)] at x
        by_cases hb : (((set) >>> (Int32.ofNat k &&& 31)) &&& 1) = 1
        · rw [if_pos hb, if_pos x]
          by_cases h0 : s k ≤ 0
          · rw [if_neg (fun z => (hk.mp z).1 h0)] at e1
            rw [if_pos h0]
            simp only [Option.bind_some]
            rw [p_succ (by omega), Int32.add_zero, ← e1]
            exact this
          · rw [if_pos (hk.mpr ⟨h0, hb⟩)] at e1
            rw [if_neg h0]
            simp only [Option.bind_some]
            rw [p_succ (by omega), ← e1]
            exact this
        · rw [if_neg (fun z => hb (hk.mp z).2)] at e1
          rw [if_neg hb]
          simp only [Option.bind_some]
          rw [p_succ (by omega), Int32.add_zero, ← e1]
          exact this
  unfold f_X12_drinkers
  have := loop (vmn P) 0 N (by omega) (by omega)
  rw [show Int32.ofNat 0 = (0 : Int32) from rfl] at this
  rw [show vcnt P s 0 = (0 : Int32) from rfl] at this
  rw [this]
  rfl
theorem dk_bw {P : VP} {d : Int32} {s : Nat → Int32} {w0 : Int32} (hm : vmn P ≤ 8) (h1 : 0 ≤ (vra P).toInt) (hw : 0 ≤ w0.toInt) (hsh : ∀ (d st many ah : Int32) (m : Nat), m < vmn P → 0 < many.toInt → 0 ≤ (vsh P d st many ah m).toInt) : ∀ {k : Nat}, k ≤ vmn P → 0 ≤ (dk P d s w0 k).1.toInt ∧ (dk P d s w0 k).1.toInt ≤ (vra P).toInt ∧ 0 ≤ (dk P d s w0 k).2.1.toInt ∧ (dk P d s w0 k).2.1.toInt ≤ w0.toInt
  | 0, _ => ⟨h1, Int.le_refl _, hw, Int.le_refl _⟩
  | k + 1, h => by
    obtain ⟨a1, a2, a3, a4⟩ := dk_bw hm h1 hw hsh (d := d) (s := s) (k := k) (by omega)
    by_cases hk : kdb P k (s k) = true
    · have e : dk P d s w0 (k + 1) = ((dk P d s w0 k).1 - gmin (dk P d s w0 k).1 (dk P d s w0 k).2.1 (vsh P d (s k) (vcnt P s (vmn P)) (dk P d s w0 k).2.2 k), (dk P d s w0 k).2.1 - gmin (dk P d s w0 k).1 (dk P d s w0 k).2.1 (vsh P d (s k) (vcnt P s (vmn P)) (dk P d s w0 k).2.2 k), (dk P d s w0 k).2.2 + 1) := by
        show (if kdb P k (s k) = true then _ else _) = _
        rw [if_pos hk]
      have hc := vcnt_pos (P := P) (s := s) (m := k) (n := vmn P) (by omega) (by omega) hk
      obtain ⟨g1, g2, g3⟩ := gmin_le a1 a3 (hsh d (s k) (vcnt P s (vmn P)) (dk P d s w0 k).2.2 k (by omega) (by omega))
      rw [e]
      have r1 := p_rng (dk P d s w0 k).1
      have r2 := p_rng (dk P d s w0 k).2.1
      have e1 := p_sub (a := (dk P d s w0 k).1) (b := gmin (dk P d s w0 k).1 (dk P d s w0 k).2.1 (vsh P d (s k) (vcnt P s (vmn P)) (dk P d s w0 k).2.2 k)) (by omega) (by omega)
      have e2 := p_sub (a := (dk P d s w0 k).2.1) (b := gmin (dk P d s w0 k).1 (dk P d s w0 k).2.1 (vsh P d (s k) (vcnt P s (vmn P)) (dk P d s w0 k).2.2 k)) (by omega) (by omega)
      refine ⟨?_, ?_, ?_, ?_⟩
      · show 0 ≤ ((dk P d s w0 k).1 - _).toInt; omega
      · show ((dk P d s w0 k).1 - _).toInt ≤ _; omega
      · show 0 ≤ ((dk P d s w0 k).2.1 - _).toInt; omega
      · show ((dk P d s w0 k).2.1 - _).toInt ≤ _; omega
    · have e : dk P d s w0 (k + 1) = dk P d s w0 k := by
        show (if kdb P k (s k) = true then _ else _) = _
        rw [if_neg hk]
      rw [e]
      exact ⟨a1, a2, a3, a4⟩
theorem clamp0 {x : Int32} (h : 0 ≤ x.toInt) : (if x ≤ 0 then x else 0) = 0 := by
  by_cases h0 : x ≤ 0
  · rw [if_pos h0]
    rw [fa_le] at h0
    have h0 : x.toInt ≤ 0 := h0
    exact p_eq (by show _ = (0 : Int); omega)
  · rw [if_neg h0]
