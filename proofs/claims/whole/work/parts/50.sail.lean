/-! ===== the pure layer: the class's voyage, its loops ===== -/
def VT (b k : Nat) : Prop := (b = 48 ∧ 12 ≤ k) ∨ (50 ≤ b ∧ b ≤ 62) ∨ (64 ≤ b ∧ b ≤ 77) ∨ b = 79 ∨ b = 80
def off (I0 I : Nat → Nat → Int32) : Prop := ∀ b k, ¬ VT b k → I b k = I0 b k
theorem off.to {I0 I I' : Nat → Nat → Int32} (h : off I0 I) (h2 : ∀ b k, ¬ VT b k → I' b k = I b k) : off I0 I' := fun b k z => (h2 b k z).trans (h b k z)
def cB (N : Nat) (ρ : Rh) (J : Nat → Nat → Int64) (P : VP) (a l : Nat) (I0 : Nat → Nat → Int32) : Prop :=
  (I0 42 0 = Int32.ofNat (vmn P) ∧ vmn P ≤ 8) ∧ (∀ m, m < vmn P → I0 44 m = vrw P m) ∧ I0 48 9 = vra P ∧ (∀ m, m < vmn P → ((((I0 48 10) >>> (Int32.ofNat m &&& 31)) &&& 1) = 1 ↔ vkb P m = true)) ∧ I0 48 11 = vhid P ∧ I0 45 3 = vmi P ∧ (∀ q, q < 12 → I0 47 q = vrn P q) ∧ ρ.1 48 8 = some a ∧ isR (ρ.2.1 a) ∧ (115 ≤ a ∧ I0 a 1 = vmo P) ∧ ρ.1 42 6 = some l ∧ ρ.2.1 l = (0, 2) ∧
  (∀ (I : Nat → Nat → Int32), off I0 I → ∀ (d m : Nat) (st many ah : Int32), m < vmn P → d < 12 → I 48 13 = Int32.ofNat d → I 48 14 = many → 0 < many.toInt → I 48 15 = ah → I (50 + d) m = st → f_any_share N ρ I J a (Int32.ofNat m) = some (vsh P (Int32.ofNat d) st many ah m)) ∧
  (∀ (I : Nat → Nat → Int32) (nm : Nat → Int32), off I0 I → (∀ q, q < 6 → I 79 q = nm q) → ∃ I', f_X2_row N ρ I J l = some (I', vro P nm) ∧ ∀ x q, ¬ x = 80 → I' x q = I x q) ∧
  (∀ (I : Nat → Nat → Int32) (nm : Nat → Int32), off I0 I → (∀ q, q < 6 → I 79 q = nm q) → ∃ I', f_X2_need N ρ I J l = some (I', vnd P nm) ∧ ∀ x q, ¬ x = 80 → I' x q = I x q)
theorem c_living {N : Nat} {ρ : Rh} {J : Nat → Nat → Int64} {I : Nat → Nat → Int32} {n d : Nat} (hn : I 42 0 = Int32.ofNat n) (hn8 : n ≤ 8) (hd : d < 13) (hN : 200 ≤ N) : f_X10_living N ρ I J (Int32.ofNat d) = some (vliv (I (50 + d)) n) := by
  have loop : ∀ (e k fuel : Nat), k + e = n → e < fuel → f_X10_living_4 N I J ρ (Int32.ofNat d) fuel (vliv (I (50 + d)) k) (Int32.ofNat k) = some (vliv (I (50 + d)) n) := by
    intro e
    induction e with
    | zero =>
      intro k fuel z1 z2
      cases fuel with
      | zero => omega
      | succ fuel =>
        rw [f_X10_living_4.eq_2, hn, if_pos ((p_ge (by omega) (by omega)).mpr (by omega)), show k = n by omega]
    | succ e ih =>
      intro k fuel z1 z2
      cases fuel with
      | zero => omega
      | succ fuel =>
        have xd := p_ixn (k := d) (n := 13) hd (by omega)
        have xk := p_ixn (k := k) (n := 8) (by omega) (by omega)
        rw [f_X10_living_4.eq_2, hn, if_neg (fun z => absurd ((p_ge (by omega) (by omega)).mp z) (by omega)), if_pos xd, if_pos xk, p_tnI (by omega), p_tnI (by omega)]
        have hj : (if I (50 + d) k ≤ 0 then some (vliv (I (50 + d)) k) else some (vliv (I (50 + d)) k + 1)) = some (vliv (I (50 + d)) (k + 1)) := by
          show _ = some (if I (50 + d) k ≤ 0 then vliv (I (50 + d)) k else vliv (I (50 + d)) k + 1)
          split <;> rfl
        rw [hj]
        simp only [Option.bind_some]
        rw [p_succ (by omega)]
        exact ih (k + 1) fuel (by omega) (by omega)
  unfold f_X10_living
  have := loop n 0 N (by omega) (by omega)
  rw [show Int32.ofNat 0 = (0 : Int32) from rfl] at this
  rw [show (vliv (I (50 + d)) 0) = (0 : Int32) from rfl] at this
  rw [this]
  rfl
theorem c_drinks {N : Nat} {ρ : Rh} {J : Nat → Nat → Int64} {P : VP} {a l : Nat} {I0 I : Nat → Nat → Int32} (hB : cB N ρ J P a l I0) (ho : off I0 I) {d m : Nat} (hd : d < 12) (hm : m < vmn P) (h13 : I 48 13 = Int32.ofNat d) : f_X10_drinks N ρ I J (Int32.ofNat m) = some (if kdb P m (I (50 + d) m) = true then 1 else 0) := by
  obtain ⟨⟨b1, b2⟩, b3, b4, b5, b6, b7, b8, b9, b10, b11, b12, b13, b14, b15, b16⟩ := hB
  have e10 : I 48 10 = I0 48 10 := ho 48 10 (by unfold VT; omega)
  unfold f_X10_drinks
  rw [h13, if_pos (p_ixn (k := d) (n := 13) (by omega) (by omega)), if_pos (p_ixn (k := m) (n := 8) (by omega) (by omega)), p_tnI (by omega), p_tnI (by omega), e10]
  unfold kdb
  by_cases h0 : I (50 + d) m ≤ 0
  · rw [if_pos h0, if_pos h0, if_neg (by decide)]
  · rw [if_neg h0, if_neg h0]
    by_cases hb : (((I0 48 10) >>> (Int32.ofNat m &&& 31)) &&& 1) = 1
    · rw [if_pos hb, if_pos ((b5 m hm).mp hb)]
    · rw [if_neg hb, if_neg (fun z => hb ((b5 m hm).mpr z))]
theorem c_count {N : Nat} {ρ : Rh} {J : Nat → Nat → Int64} {P : VP} {a l : Nat} {I0 : Nat → Nat → Int32} (hB : cB N ρ J P a l I0) {d : Nat} (hd : d < 12) {s : Nat → Int32} : ∀ (e k fuel : Nat) (I : Nat → Nat → Int32), off I0 I → k + e = vmn P → e < fuel → I 48 13 = Int32.ofNat d → (∀ m, m < vmn P → I (50 + d) m = s m) → I 48 14 = vcnt P s k → ∃ I', f_X10_drink_7 N J ρ fuel I (Int32.ofNat k) = some I' ∧ (∀ b j, ¬ (b = 48 ∧ j = 14) → I' b j = I b j) ∧ I' 48 14 = vcnt P s (vmn P)
  | 0, k, fuel + 1, I, ho, z1, z2, h13, hs, h14 => by
    have hn : I 42 0 = Int32.ofNat (vmn P) := (ho 42 0 (by unfold VT; omega)).trans hB.1.1
    have h8 := hB.1.2
    refine ⟨I, ?_, fun _ _ _ => rfl, by rw [h14, show k = vmn P by omega]⟩
    rw [f_X10_drink_7.eq_2, hn, if_pos ((p_ge (by omega) (by omega)).mpr (by omega))]
  | e + 1, k, fuel + 1, I, ho, z1, z2, h13, hs, h14 => by
    have hn : I 42 0 = Int32.ofNat (vmn P) := (ho 42 0 (by unfold VT; omega)).trans hB.1.1
    have h8 := hB.1.2
    have hq := c_drinks hB ho hd (m := k) (by omega) h13
    rw [hs k (by omega)] at hq
    by_cases hk : kdb P k (s k) = true
    · rw [if_pos hk] at hq
      obtain ⟨I', g1, g2, g3⟩ := c_count hB hd (s := s) e (k + 1) fuel (u2 I 48 14 (vcnt P s (k + 1))) (ho.to (fun b j z => u2_fr (by unfold VT at z; omega))) (by omega) (by omega) ((u2_fr (by omega)).trans h13) (fun m hm => (u2_fr (by omega)).trans (hs m hm)) u2_at
      refine ⟨I', ?_, fun b j z => (g2 b j z).trans (u2_fr (by omega)), g3⟩
      rw [f_X10_drink_7.eq_2, hn, if_neg (fun z => absurd ((p_ge (by omega) (by omega)).mp z) (by omega)), hq]
      simp only [Option.bind_some]
      rw [if_neg (by decide)]
      simp only [Option.bind_some]
      rw [h14, p_succ (by omega), ← g1]
      unfold vcnt
      rw [if_pos hk]
      cases k <;> rfl
    · rw [if_neg hk] at hq
      obtain ⟨I', g1, g2, g3⟩ := c_count hB hd (s := s) e (k + 1) fuel I ho (by omega) (by omega) h13 hs (by rw [h14]; show _ = (if kdb P k (s k) = true then vcnt P s k + 1 else vcnt P s k); rw [if_neg hk])
      refine ⟨I', ?_, g2, g3⟩
      rw [f_X10_drink_7.eq_2, hn, if_neg (fun z => absurd ((p_ge (by omega) (by omega)).mp z) (by omega)), hq]
      simp only [Option.bind_some]
      rw [if_pos trivial]
      simp only [Option.bind_some]
      rw [p_succ (by omega)]
      exact g1
theorem c_deal {N : Nat} {ρ : Rh} {J : Nat → Nat → Int64} {P : VP} {a l : Nat} {I0 : Nat → Nat → Int32} (hB : cB N ρ J P a l I0) {d : Nat} (hd : d < 12) {s : Nat → Int32} {w0 : Int32} : ∀ (e k fuel : Nat) (I : Nat → Nat → Int32), off I0 I → k + e = vmn P → e < fuel → I 48 13 = Int32.ofNat d → (∀ m, m < vmn P → I (50 + d) m = s m) → I 48 14 = vcnt P s (vmn P) → I 48 15 = (dk P (Int32.ofNat d) s w0 k).2.2 → I 76 (d + 1) = (dk P (Int32.ofNat d) s w0 k).2.1 → (∀ m, k ≤ m → m < vmn P → I (64 + d) m = 0) → ∃ I', f_X10_drink_54 N J ρ fuel I (dk P (Int32.ofNat d) s w0 k).1 (Int32.ofNat k) = some I' ∧ (∀ b j, ¬ (b = 48 ∧ j = 15) → ¬ (b = 76 ∧ j = d + 1) → ¬ (b = 64 + d ∧ k ≤ j) → I' b j = I b j) ∧ I' 76 (d + 1) = (dk P (Int32.ofNat d) s w0 (vmn P)).2.1 ∧ (∀ m, k ≤ m → m < vmn P → I' (64 + d) m = gotv P (Int32.ofNat d) s w0 m)
  | 0, k, fuel + 1, I, ho, z1, z2, h13, hs, h14, h15, h76, hg => by
    have hn : I 42 0 = Int32.ofNat (vmn P) := (ho 42 0 (by unfold VT; omega)).trans hB.1.1
    have h8 := hB.1.2
    refine ⟨I, ?_, fun _ _ _ _ _ => rfl, by rw [h76, show k = vmn P by omega], fun m m1 m2 => absurd m1 (by omega)⟩
    rw [f_X10_drink_54.eq_2, hn, if_pos ((p_ge (by omega) (by omega)).mpr (by omega))]
  | e + 1, k, fuel + 1, I, ho, z1, z2, h13, hs, h14, h15, h76, hg => by
    have hn : I 42 0 = Int32.ofNat (vmn P) := (ho 42 0 (by unfold VT; omega)).trans hB.1.1
    have h8 := hB.1.2
    have hq := c_drinks hB ho hd (m := k) (by omega) h13
    rw [hs k (by omega)] at hq
    have hdk : dk P (Int32.ofNat d) s w0 (k + 1) = if kdb P k (s k) = true then ((dk P (Int32.ofNat d) s w0 k).1 - gotv P (Int32.ofNat d) s w0 k, (dk P (Int32.ofNat d) s w0 k).2.1 - gotv P (Int32.ofNat d) s w0 k, (dk P (Int32.ofNat d) s w0 k).2.2 + 1) else dk P (Int32.ofNat d) s w0 k := by
      by_cases hk : kdb P k (s k) = true
      · rw [if_pos hk]
        show (if kdb P k (s k) = true then _ else _) = _
        rw [if_pos hk]
        unfold gotv
        rw [if_pos hk]
      · rw [if_neg hk]
        show (if kdb P k (s k) = true then _ else _) = _
        rw [if_neg hk]
    by_cases hk : kdb P k (s k) = true
    · rw [if_pos hk] at hq hdk
      have hgv : gotv P (Int32.ofNat d) s w0 k = gmin (dk P (Int32.ofNat d) s w0 k).1 (dk P (Int32.ofNat d) s w0 k).2.1 (vsh P (Int32.ofNat d) (s k) (vcnt P s (vmn P)) (dk P (Int32.ofNat d) s w0 k).2.2 k) := by unfold gotv; rw [if_pos hk]
      have hmany : 0 < (vcnt P s (vmn P)).toInt := by
        have := vcnt_pos (P := P) (s := s) (m := k) (n := vmn P) (by omega) (by omega) hk
        omega
      have hsh := hB.2.2.2.2.2.2.2.2.2.2.2.2.1 I ho d k (s k) (vcnt P s (vmn P)) (dk P (Int32.ofNat d) s w0 k).2.2 (by omega) hd h13 h14 hmany h15 (hs k (by omega))
      obtain ⟨I', g1, g2, g3, g4⟩ := c_deal hB hd (s := s) (w0 := w0) e (k + 1) fuel (u2 (u2 (u2 I (64 + d) k (gotv P (Int32.ofNat d) s w0 k)) 76 (d + 1) ((dk P (Int32.ofNat d) s w0 k).2.1 - gotv P (Int32.ofNat d) s w0 k)) 48 15 ((dk P (Int32.ofNat d) s w0 k).2.2 + 1))
        (ho.to (fun b j z => (u2_fr (by unfold VT at z; omega)).trans ((u2_fr (by unfold VT at z; omega)).trans (u2_fr (by unfold VT at z; omega))))) (by omega) (by omega)
        ((u2_fr (by omega)).trans ((u2_fr (by omega)).trans ((u2_fr (by omega)).trans h13))) (fun m hm => (u2_fr (by omega)).trans ((u2_fr (by omega)).trans ((u2_fr (by omega)).trans (hs m hm))))
        ((u2_fr (by omega)).trans ((u2_fr (by omega)).trans ((u2_fr (by omega)).trans h14))) (by rw [u2_at, hdk]) (by rw [u2_fr (by omega), u2_at, hdk])
        (fun m m1 m2 => (u2_fr (by omega)).trans ((u2_fr (by omega)).trans ((u2_fr (by omega)).trans (hg m (by omega) m2))))
      refine ⟨I', ?_, fun b j y1 y2 y3 => (g2 b j y1 y2 (by omega)).trans ((u2_fr (by omega)).trans ((u2_fr (by omega)).trans (u2_fr (by omega)))), g3, fun m m1 m2 => ?_⟩
      · rw [f_X10_drink_54.eq_2, hn, if_neg (fun z => absurd ((p_ge (by omega) (by omega)).mp z) (by omega)), hq]
        simp only [Option.bind_some]
        have c13 : (u2 I (64 + d) k (gotv P (Int32.ofNat d) s w0 k)) 48 13 = Int32.ofNat d := (u2_fr (by omega)).trans h13
        have c15 : (u2 I (64 + d) k (gotv P (Int32.ofNat d) s w0 k)) 48 15 = (dk P (Int32.ofNat d) s w0 k).2.2 := (u2_fr (by omega)).trans h15
        have c76 : (u2 I (64 + d) k (gotv P (Int32.ofNat d) s w0 k)) 76 (d + 1) = (dk P (Int32.ofNat d) s w0 k).2.1 := (u2_fr (by omega)).trans h76
        have td := p_tnI (n := d) (by omega)
        have td1 := p_tnI (n := d + 1) (by omega)
        have tk := p_tnI (n := k) (by omega)
        have xd1 := p_ixn (k := d + 1) (n := 13) (by omega) (by omega)
        have xd := p_ixn (k := d) (n := 12) (by omega) (by omega)
        have xk := p_ixn (k := k) (n := 8) (by omega) (by omega)
        rw [td1] at xd1
        rw [td] at xd
        rw [tk] at xk
        rw [if_neg (by decide), h13, p_succ (by omega)]
        simp only [td1, h76, bnd]
        rw [if_pos xd1, hB.2.2.2.2.2.2.2.1]
        simp only [Option.bind_some, hsh, td, tk]
        rw [show (if vsh P (Int32.ofNat d) (s k) (vcnt P s (vmn P)) (dk P (Int32.ofNat d) s w0 k).2.2 k < (if (dk P (Int32.ofNat d) s w0 k).2.1 < (dk P (Int32.ofNat d) s w0 k).1 then (dk P (Int32.ofNat d) s w0 k).2.1 else (dk P (Int32.ofNat d) s w0 k).1) then vsh P (Int32.ofNat d) (s k) (vcnt P s (vmn P)) (dk P (Int32.ofNat d) s w0 k).2.2 k else (if (dk P (Int32.ofNat d) s w0 k).2.1 < (dk P (Int32.ofNat d) s w0 k).1 then (dk P (Int32.ofNat d) s w0 k).2.1 else (dk P (Int32.ofNat d) s w0 k).1)) = gotv P (Int32.ofNat d) s w0 k from by rw [hgv]; rfl]
        rw [if_pos xd, if_pos xk, c13, p_succ (by omega), td1, if_pos xd1, if_pos xd1, c76, c15]
        simp only [Option.bind_some]
        rw [p_succ (by omega)]
        rw [hdk] at g1
        exact g1
      · by_cases hmk : m = k
        · subst hmk
          rw [g2 (64 + d) m (by omega) (by omega) (by omega), u2_fr (by omega), u2_fr (by omega), u2_at]
        · exact g4 m (by omega) m2
    · rw [if_neg hk] at hq hdk
      obtain ⟨I', g1, g2, g3, g4⟩ := c_deal hB hd (s := s) (w0 := w0) e (k + 1) fuel I ho (by omega) (by omega) h13 hs h14 (by rw [h15, hdk]) (by rw [h76, hdk]) (fun m m1 m2 => hg m (by omega) m2)
      refine ⟨I', ?_, fun b j y1 y2 y3 => g2 b j y1 y2 (by omega), g3, fun m m1 m2 => ?_⟩
      · rw [f_X10_drink_54.eq_2, hn, if_neg (fun z => absurd ((p_ge (by omega) (by omega)).mp z) (by omega)), hq]
        simp only [Option.bind_some]
        rw [if_pos trivial]
        simp only [Option.bind_some]
        rw [p_succ (by omega)]
        rw [hdk] at g1
        exact g1
      · by_cases hmk : m = k
        · subst hmk
          rw [g2 (64 + d) m (by omega) (by omega) (by omega), hg m (Nat.le_refl _) m2]
          unfold gotv
          rw [if_neg hk]
        · exact g4 m (by omega) m2
