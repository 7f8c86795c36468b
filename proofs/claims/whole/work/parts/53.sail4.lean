/-! ===== the pure layer: the class's whole voyage ===== -/
def cAll (P : VP) (d e : Nat) (V : VS) (I : Nat → Nat → Int32) : Prop := (∀ x, x ≤ e → (∀ m, m < vmn P → I (50 + (d + x)) m = (trj P x d V).1 m) ∧ I 76 (d + x) = (trj P x d V).2.1 ∧ I 77 (d + x) = (trj P x d V).2.2.1) ∧ (∀ x, x < e → ∀ m, m < vmn P → I (64 + (d + x)) m = vgot P (d + x) (trj P x d V) m) ∧ I 48 16 = (trj P e d V).2.2.2.1
theorem c_days {N : Nat} (hN : 200 ≤ N) {ρ : Rh} (sh : Sh ρ) {J : Nat → Nat → Int64} {P : VP} {a l : Nat} {I0 : Nat → Nat → Int32} (hB : cB N ρ J P a l I0) {D : Nat} (hD : D ≤ 12) (h45 : I0 45 0 = Int32.ofNat D) : ∀ (e d fuel : Nat) (V : VS) (I : Nat → Nat → Int32), d + e = D → e < fuel → off I0 I → cR P d V I → ∃ I', f_X10_sailAs_77 N J ρ fuel I (Int32.ofNat d) = some I' ∧ off I0 I' ∧ (∀ b j, ¬ (b = 48 ∧ 12 ≤ j) → ¬ (50 + d < b ∧ b ≤ 62) → ¬ (64 + d ≤ b ∧ b ≤ 75) → ¬ (b = 76 ∧ d < j) → ¬ (b = 77 ∧ d < j) → ¬ b = 79 → ¬ b = 80 → I' b j = I b j) ∧ cAll P d e V I'
  | 0, d, fuel + 1, V, I, z1, z2, ho, hR => by
    refine ⟨I, ?_, ho, fun _ _ _ _ _ _ _ _ _ => rfl, ?_⟩
    · rw [f_X10_sailAs_77.eq_2, ho 45 0 (by unfold VT; omega), h45]
      rw [if_pos (show Int32.ofNat D ≤ Int32.ofNat d from (p_ge (by omega) (by omega)).mpr (by omega))]
      split <;> rfl
    · refine ⟨fun x hx => ?_, fun x hx => absurd hx (by omega), hR.2.2.2.1⟩
      have : x = 0 := by omega
      subst this
      exact ⟨hR.1, hR.2.1, hR.2.2.1⟩
  | e + 1, d, fuel + 1, V, I, z1, z2, ho, hR => by
    obtain ⟨I1, g1, g2, g3, g4, g5⟩ := c_day hN sh hB ho hD (d := d) (by omega) h45 hR (fuel := fuel)
    obtain ⟨I2, f1, f2, f3, f4, f5, f6⟩ := c_days hN sh hB hD h45 e (d + 1) fuel (vstep P d V) I1 (by omega) (by omega) g2 g3
    refine ⟨I2, g1.trans f1, f2, fun b j y1 y2 y3 y4 y5 y6 y7 => (f3 b j y1 (by omega) (by omega) (by omega) (by omega) y6 y7).trans (g5 b j y1 (by omega) (by omega) (by omega) (by omega) y6 y7), fun x hx => ?_, fun x hx m hm => ?_, f6⟩
    · cases x with
      | zero =>
        have w : ∀ b j, (b = 50 + d ∨ (b = 76 ∧ j = d) ∨ (b = 77 ∧ j = d)) → I2 b j = I b j := fun b j hb => (f3 b j (by omega) (by omega) (by omega) (by omega) (by omega) (by omega) (by omega)).trans (g5 b j (by omega) (by omega) (by omega) (by omega) (by omega) (by omega) (by omega))
        exact ⟨fun m hm => (w _ m (Or.inl rfl)).trans (hR.1 m hm), (w 76 d (by omega)).trans hR.2.1, (w 77 d (by omega)).trans hR.2.2.1⟩
      | succ x =>
        have := f4 x (by omega)
        rw [show d + 1 + x = d + (x + 1) by omega] at this
        exact this
    · cases x with
      | zero => exact (f3 _ m (by omega) (by omega) (by omega) (by omega) (by omega) (by omega) (by omega)).trans (g4 m hm)
      | succ x =>
        have := f5 x (by omega) m hm
        rw [show d + 1 + x = d + (x + 1) by omega] at this
        exact this
/-- the ints that a voyage begins with -/
def sIn (I : Nat → Nat → Int32) (ra set hid hides : Int32) : Nat → Nat → Int32 := u2 (u2 (up (u2 (u2 (u2 (u2 (u2 I 48 9 ra) 48 10 set) 48 11 hid) 48 12 hides) 48 16 (-1)) 50 (cpy ((u2 (u2 (u2 (u2 (u2 I 48 9 ra) 48 10 set) 48 11 hid) 48 12 hides) 48 16 (-1)) 43) ((u2 (u2 (u2 (u2 (u2 I 48 9 ra) 48 10 set) 48 11 hid) 48 12 hides) 48 16 (-1)) 50) (tn (0)) (tn (0)) (tn (8)))) 76 0 (I 45 1)) 77 0 (0)
theorem sIn_fr {I : Nat → Nat → Int32} {ra set hid hides : Int32} {b j : Nat} (h1 : ¬ (b = 48 ∧ 9 ≤ j)) (h2 : ¬ b = 50) (h3 : ¬ (b = 76 ∧ j = 0)) (h4 : ¬ (b = 77 ∧ j = 0)) : sIn I ra set hid hides b j = I b j := by
  unfold sIn
  rw [u2_fr (by omega), u2_fr (by omega), up_ap, if_neg h2, u2_fr (by omega), u2_fr (by omega), u2_fr (by omega), u2_fr (by omega), u2_fr (by omega)]
theorem sIn_at {I : Nat → Nat → Int32} {ra set hid hides : Int32} : sIn I ra set hid hides 48 9 = ra ∧ sIn I ra set hid hides 48 10 = set ∧ sIn I ra set hid hides 48 11 = hid ∧ sIn I ra set hid hides 48 12 = hides ∧ sIn I ra set hid hides 48 16 = -1 ∧ sIn I ra set hid hides 76 0 = I 45 1 ∧ sIn I ra set hid hides 77 0 = 0 ∧ ∀ q, q < 8 → sIn I ra set hid hides 50 q = I 43 q := by
  unfold sIn
  refine ⟨?_, ?_, ?_, ?_, ?_, ?_, u2_at, fun q hq => ?_⟩
  · rw [u2_fr (by omega), u2_fr (by omega), up_ap, if_neg (by omega), u2_fr (by omega), u2_fr (by omega), u2_fr (by omega), u2_fr (by omega), u2_at]
  · rw [u2_fr (by omega), u2_fr (by omega), up_ap, if_neg (by omega), u2_fr (by omega), u2_fr (by omega), u2_fr (by omega), u2_at]
  · rw [u2_fr (by omega), u2_fr (by omega), up_ap, if_neg (by omega), u2_fr (by omega), u2_fr (by omega), u2_at]
  · rw [u2_fr (by omega), u2_fr (by omega), up_ap, if_neg (by omega), u2_fr (by omega), u2_at]
  · rw [u2_fr (by omega), u2_fr (by omega), up_ap, if_neg (by omega), u2_at]
  · rw [u2_fr (by omega), u2_at]
  · have e8 : tn (8 : Int32) = 8 := rfl
    have e0 : tn (0 : Int32) = 0 := rfl
    rw [u2_fr (by omega), u2_fr (by omega), up_ap, if_pos rfl, e8, e0]
    simp only [cpy]
    rw [if_pos (by omega), u2_fr (by omega), u2_fr (by omega), u2_fr (by omega), u2_fr (by omega), u2_fr (by omega)]
    congr 1
    omega
