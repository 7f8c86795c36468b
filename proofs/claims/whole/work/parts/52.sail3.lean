/-! ===== the pure layer: the class's days ===== -/
theorem got_k {ρ : Rh} (h : Sh ρ) {d : Nat} (hd : d < 12) : ρ.2.1 (64 + d) = (1, 8) := by
  have c : d = 0 ∨ d = 1 ∨ d = 2 ∨ d = 3 ∨ d = 4 ∨ d = 5 ∨ d = 6 ∨ d = 7 ∨ d = 8 ∨ d = 9 ∨ d = 10 ∨ d = 11 := by omega
  rcases c with c | c | c | c | c | c | c | c | c | c | c | c <;> subst c
  · exact h.k64
  · exact h.k65
  · exact h.k66
  · exact h.k67
  · exact h.k68
  · exact h.k69
  · exact h.k70
  · exact h.k71
  · exact h.k72
  · exact h.k73
  · exact h.k74
  · exact h.k75
theorem c_carry {N : Nat} (hN : 200 ≤ N) {ρ : Rh} (sh : Sh ρ) {J : Nat → Nat → Int64} {I : Nat → Nat → Int32} {d : Nat} (hd : d < 12) (h13 : I 48 13 = Int32.ofNat d) : ∃ I', f_X10_carryOver N ρ I J = some I' ∧ (∀ b j, ¬ b = 50 + (d + 1) → ¬ b = 64 + d → ¬ (b = 76 ∧ j = d + 1) → ¬ (b = 77 ∧ j = d + 1) → I' b j = I b j) ∧ (∀ q, q < 8 → I' (50 + (d + 1)) q = I (50 + d) q) ∧ (∀ q, q < 8 → I' (64 + d) q = 0) ∧ I' 76 (d + 1) = I 76 d ∧ I' 77 (d + 1) = I 77 d := by
  have td := p_tnI (n := d) (by omega)
  have td1 := p_tnI (n := d + 1) (by omega)
  have xd13 := p_ixn (k := d) (n := 13) (by omega) (by omega)
  have xd1 := p_ixn (k := d + 1) (n := 13) (by omega) (by omega)
  have xd := p_ixn (k := d) (n := 12) (by omega) (by omega)
  rw [td] at xd13 xd
  rw [td1] at xd1
  have e0 : tn (0 : Int32) = 0 := rfl
  have e8 : tn (8 : Int32) = 8 := rfl
  obtain ⟨X, hX⟩ : ∃ X, X = up I (50 + (d + 1)) (cpy (I (50 + d)) (I (50 + (d + 1))) 0 0 8) := ⟨_, rfl⟩
  have X13 : X 48 13 = Int32.ofNat d := by rw [hX, up_ap, if_neg (by omega)]; exact h13
  obtain ⟨Y, hY⟩ : ∃ Y, Y = fun b j => if b = 64 + d ∧ j < 8 then (0 : Int32) else X b j := ⟨_, rfl⟩
  have yY : ∀ b j, Y b j = if b = 64 + d ∧ j < 8 then (0 : Int32) else X b j := fun b j => by rw [hY]
  have Y13 : Y 48 13 = Int32.ofNat d := by rw [yY, if_neg (by omega)]; exact X13
  have Y76 : ∀ j, Y 76 j = I 76 j := fun j => by rw [yY, if_neg (by omega), hX, up_ap, if_neg (by omega)]
  have Y77 : ∀ j, Y 77 j = I 77 j := fun j => by rw [yY, if_neg (by omega), hX, up_ap, if_neg (by omega)]
  refine ⟨u2 (u2 Y 76 (d + 1) (I 76 d)) 77 (d + 1) (I 77 d), ?_, fun b j y1 y2 y3 y4 => ?_, fun q hq => ?_, fun q hq => ?_, ?_, u2_at⟩
  · unfold f_X10_carryOver
    rw [h13, p_succ (by omega)]
    simp only [td, td1, e0, e8]
    rw [if_pos xd13, if_pos xd1, ← hX, X13, td, if_pos xd, fill_all (got_k sh hd) (by omega) (by omega), ← hY]
    simp only [Option.bind_some]
    rw [Y13, p_succ (by omega)]
    simp only [td, td1]
    rw [if_pos xd13, if_pos xd1, if_pos xd13, if_pos xd1, Y76, Y77]
  · rw [u2_fr (by omega), u2_fr (by omega), yY, if_neg (by omega), hX, up_ap, if_neg (by omega)]
  · rw [u2_fr (by omega), u2_fr (by omega), yY, if_neg (by omega), hX, up_ap, if_pos rfl]
    simp [cpy, hq]
  · rw [u2_fr (by omega), u2_fr (by omega), yY, if_pos ⟨rfl, hq⟩]
  · rw [u2_fr (by omega), u2_at]
def cR (P : VP) (d : Nat) (V : VS) (I : Nat → Nat → Int32) : Prop := (∀ m, m < vmn P → I (50 + d) m = V.1 m) ∧ I 76 d = V.2.1 ∧ I 77 d = V.2.2.1 ∧ I 48 16 = V.2.2.2.1 ∧ I 48 12 = V.2.2.2.2
theorem c_day {N : Nat} (hN : 200 ≤ N) {ρ : Rh} (sh : Sh ρ) {J : Nat → Nat → Int64} {P : VP} {a l : Nat} {I0 I : Nat → Nat → Int32} (hB : cB N ρ J P a l I0) (ho : off I0 I) {D d : Nat} (hD : D ≤ 12) (hd : d < D) (h45 : I0 45 0 = Int32.ofNat D) {V : VS} (hR : cR P d V I) {fuel : Nat} : ∃ I', f_X10_sailAs_77 N J ρ (fuel + 1) I (Int32.ofNat d) = f_X10_sailAs_77 N J ρ fuel I' (Int32.ofNat (d + 1)) ∧ off I0 I' ∧ cR P (d + 1) (vstep P d V) I' ∧ (∀ m, m < vmn P → I' (64 + d) m = vgot P d V m) ∧ (∀ b j, ¬ (b = 48 ∧ 12 ≤ j) → ¬ b = 50 + (d + 1) → ¬ b = 64 + d → ¬ (b = 76 ∧ j = d + 1) → ¬ (b = 77 ∧ j = d + 1) → ¬ b = 79 → ¬ b = 80 → I' b j = I b j) := by
  obtain ⟨v1, v2, v3, v4, v5⟩ := hR
  have hn0 := hB.1.1
  have h8 := hB.1.2
  obtain ⟨I1, e1, c1, c2, c3, c4, c5⟩ := c_carry hN sh (J := J) (I := u2 I 48 13 (Int32.ofNat d)) (d := d) (by omega) u2_at
  have w1 : ∀ b j, ¬ b = 50 + (d + 1) → ¬ b = 64 + d → ¬ (b = 76 ∧ j = d + 1) → ¬ (b = 77 ∧ j = d + 1) → ¬ (b = 48 ∧ j = 13) → I1 b j = I b j := fun b j y1 y2 y3 y4 y5 => (c1 b j y1 y2 y3 y4).trans (u2_fr (by omega))
  have s1 : ∀ m, m < vmn P → I1 (50 + d) m = V.1 m := fun m hm => (w1 _ m (by omega) (by omega) (by omega) (by omega) (by omega)).trans (v1 m hm)
  have s2 : ∀ m, m < vmn P → I1 (50 + (d + 1)) m = V.1 m := fun m hm => by rw [c2 m (by omega), u2_fr (by omega)]; exact v1 m hm
  have s3 : I1 48 16 = V.2.2.2.1 := (w1 48 16 (by omega) (by omega) (by omega) (by omega) (by omega)).trans v4
  have s4 : I1 48 12 = V.2.2.2.2 := (w1 48 12 (by omega) (by omega) (by omega) (by omega) (by omega)).trans v5
  have s13 : I1 48 13 = Int32.ofNat d := (c1 48 13 (by omega) (by omega) (by omega) (by omega)).trans u2_at
  have s76 : I1 76 (d + 1) = V.2.1 := by rw [c4, u2_fr (by omega)]; exact v2
  have s77 : I1 77 (d + 1) = V.2.2.1 := by rw [c5, u2_fr (by omega)]; exact v3
  have s76' : I1 76 d = V.2.1 := (w1 76 d (by omega) (by omega) (by omega) (by omega) (by omega)).trans v2
  have ho1 : off I0 I1 := ho.to (fun b j z => w1 b j (by unfold VT at z; omega) (by unfold VT at z; omega) (by unfold VT at z; omega) (by unfold VT at z; omega) (by unfold VT at z; omega))
  have hn1 : I1 42 0 = Int32.ofNat (vmn P) := (ho1 42 0 (by unfold VT; omega)).trans hn0
  have L1 : f_X10_living N ρ I1 J (Int32.ofNat d) = some (vliv V.1 (vmn P)) := by
    rw [c_living hn1 h8 (by omega) hN, vliv_cong s1]
  have pre : ∀ (T : Option (Nat → Nat → Int32)), (if ((I1 48 16) = (-1 : Int32)) then (Option.bind (f_X10_living N ρ I1 J (Int32.ofNat d)) fun v5 => (if (v5 ≤ 0) then some I1 else T)) else some I1) = if von P V = true then T else some I1 := by
    intro T
    rw [s3, L1]
    unfold von
    by_cases a1 : V.2.2.2.1 = -1
    · rw [if_pos a1, if_pos a1]
      simp only [Option.bind_some]
      by_cases a2 : vliv V.1 (vmn P) ≤ 0
      · rw [if_pos a2, if_pos a2, if_neg (by decide)]
      · rw [if_neg a2, if_neg a2, if_pos rfl]
    · rw [if_neg a1, if_neg a1, if_neg (by decide)]
  have start : f_X10_sailAs_77 N J ρ (fuel + 1) I (Int32.ofNat d) = Option.bind (if ((I1 48 16) = (-1 : Int32)) then (Option.bind (f_X10_living N ρ I1 J (Int32.ofNat d)) fun v5 => (if (v5 ≤ 0) then some I1 else (if ¬ ((Int32.ofNat d) < 0 ∨ 13 ≤ tn (Int32.ofNat d)) then (if ¬ ((Int32.ofNat d) < 0 ∨ 12 ≤ tn (Int32.ofNat d)) then (bnd (if ((I1 76 (tn (Int32.ofNat d))) + (I1 47 (tn (Int32.ofNat d)))) < 9999 then ((I1 76 (tn (Int32.ofNat d))) + (I1 47 (tn (Int32.ofNat d)))) else 9999) fun x8 => (if ¬ (((Int32.ofNat d) + 1) < 0 ∨ 13 ≤ tn ((Int32.ofNat d) + 1)) then (Option.bind (f_X10_drink N ρ (u2 I1 76 (tn ((Int32.ofNat d) + 1)) x8) J) fun v10 => (Option.bind (f_X10_rowAndLive N ρ v10 J) fun v11 => (if ¬ (((Int32.ofNat d) + 1) < 0 ∨ 13 ≤ tn ((Int32.ofNat d) + 1)) then (if ((v11 77 (tn ((Int32.ofNat d) + 1))) < (v11 45 3)) then some v11 else (Option.bind (f_X10_living N ρ v11 J ((Int32.ofNat d) + 1)) fun v13 => (if (v13 ≤ 0) then some v11 else some (u2 v11 48 16 (Int32.ofNat d))))) else none))) else none)) else none) else none))) else some I1) (fun j14 => f_X10_sailAs_77 N J ρ fuel j14 ((Int32.ofNat d) + 1)) := by
    rw [f_X10_sailAs_77.eq_2, if_neg (by rw [fa_le, p_nI (by omega)]; show ¬ (12 : Int) ≤ _; omega), ho 45 0 (by unfold VT; omega), h45, if_neg (fun z => absurd ((p_ge (by omega) (by omega)).mp z) (by omega)), e1]
    rfl
  rw [start, pre, p_succ (by omega)]
  by_cases hv : von P V = true
  · rw [if_pos hv]
    have td := p_tnI (n := d) (by omega)
    have td1 := p_tnI (n := d + 1) (by omega)
    have xd13 := p_ixn (k := d) (n := 13) (by omega) (by omega)
    have xd1 := p_ixn (k := d + 1) (n := 13) (by omega) (by omega)
    have xd := p_ixn (k := d) (n := 12) (by omega) (by omega)
    have e47 : I1 47 d = vrn P d := (ho1 47 d (by unfold VT; omega)).trans (hB.2.2.2.2.2.2.1 d (by omega))
    rw [if_pos xd13, if_pos xd]
    simp only [td, td1, bnd]
    rw [td1] at xd1
    rw [if_pos xd1, s76', e47]
    have hw : (if V.2.1 + vrn P d < 9999 then V.2.1 + vrn P d else 9999) = wtr P d V := rfl
    rw [hw]
    -- the men drink
    obtain ⟨I2, d1, d2, d3⟩ := c_count hB (d := d) (by omega) (s := V.1) (vmn P) 0 N (u2 (u2 I1 76 (d + 1) (wtr P d V)) 48 14 0) (ho1.to (fun b j z => (u2_fr (by unfold VT at z; omega)).trans (u2_fr (by unfold VT at z; omega)))) (by omega) (by omega) ((u2_fr (by omega)).trans ((u2_fr (by omega)).trans s13)) (fun m hm => (u2_fr (by omega)).trans ((u2_fr (by omega)).trans (s1 m hm))) u2_at
    have w2 : ∀ b j, ¬ (b = 48 ∧ j = 14) → ¬ (b = 76 ∧ j = d + 1) → I2 b j = I1 b j := fun b j y1 y2 => (d2 b j y1).trans ((u2_fr (by omega)).trans (u2_fr (by omega)))
    have ho2 : off I0 I2 := ho1.to (fun b j z => w2 b j (by unfold VT at z; omega) (by unfold VT at z; omega))
    have s9 : I2 48 9 = vra P := (ho2 48 9 (by unfold VT; omega)).trans hB.2.2.1
    obtain ⟨I3, f1, f2, f3, f4⟩ := c_deal hB (d := d) (by omega) (s := V.1) (w0 := wtr P d V) (vmn P) 0 N (u2 I2 48 15 0) (ho2.to (fun b j z => u2_fr (by unfold VT at z; omega))) (by omega) (by omega) ((u2_fr (by omega)).trans ((w2 48 13 (by omega) (by omega)).trans s13)) (fun m hm => (u2_fr (by omega)).trans ((w2 _ m (by omega) (by omega)).trans (s1 m hm))) ((u2_fr (by omega)).trans d3) u2_at (by rw [u2_fr (by omega), d2 76 _ (by omega), u2_fr (by omega), u2_at]; rfl) (fun m m1 m2 => (u2_fr (by omega)).trans ((w2 _ m (by omega) (by omega)).trans (c3 m (by omega))))
    have w3 : ∀ b j, ¬ (b = 48 ∧ (j = 14 ∨ j = 15)) → ¬ (b = 76 ∧ j = d + 1) → ¬ b = 64 + d → I3 b j = I1 b j := fun b j y1 y2 y3 => (f2 b j (by omega) y2 (by omega)).trans ((u2_fr (by omega)).trans (w2 b j (by omega) y2))
    have ho3 : off I0 I3 := ho1.to (fun b j z => w3 b j (by unfold VT at z; omega) (by unfold VT at z; omega) (by unfold VT at z; omega))
    have D1 : f_X10_drink N ρ (u2 I1 76 (d + 1) (wtr P d V)) J = some I3 := by
      unfold f_X10_drink
      rw [show (0 : Int32) = Int32.ofNat 0 from rfl]
      rw [show (u2 (u2 I1 76 (d + 1) (wtr P d V)) 48 14 (Int32.ofNat 0)) = (u2 (u2 I1 76 (d + 1) (wtr P d V)) 48 14 0) from rfl, d1]
      simp only [Option.bind_some]
      rw [s9]
      rw [show (dk P (Int32.ofNat d) V.1 (wtr P d V) 0).1 = vra P from rfl, show (u2 I2 48 15 (0 : Int32)) = (u2 I2 48 15 (Int32.ofNat 0)) from rfl] at f1
      rw [f1]
      rfl
    rw [D1]
    simp only [Option.bind_some]
    -- they row and live
    obtain ⟨I4, g1, g2, g3, g4, g5⟩ := c_rows hB (d := d) (by omega) (s := V.1) (w0 := wtr P d V) (r0 := V.2.2.1) (l0 := V.2.2.2.2) (vmn P) 0 N I3 ho3 (by omega) (by omega) ((w3 48 13 (by omega) (by omega) (by omega)).trans s13) (fun m hm => (w3 _ m (by omega) (by omega) (by omega)).trans (s1 m hm)) ((f2 48 14 (by omega) (by omega) (by omega)).trans ((u2_fr (by omega)).trans d3)) (fun m hm => f4 m (Nat.zero_le _) hm) ((w3 77 _ (by omega) (by omega) (by omega)).trans s77) ((w3 48 12 (by omega) (by omega) (by omega)).trans s4) (fun m m1 m2 => (w3 _ m (by omega) (by omega) (by omega)).trans (s2 m m2))
    have w4 : ∀ b j, ¬ (b = 48 ∧ (j = 12 ∨ j = 14 ∨ j = 15)) → ¬ (b = 76 ∧ j = d + 1) → ¬ b = 64 + d → ¬ (b = 77 ∧ j = d + 1) → ¬ b = 50 + (d + 1) → ¬ b = 79 → ¬ b = 80 → I4 b j = I1 b j := fun b j y1 y2 y3 y4 y5 y6 y7 => (g2 b j (by omega) y4 (by omega) y6 y7).trans (w3 b j (by omega) y2 y3)
    have ho4 : off I0 I4 := ho1.to (fun b j z => w4 b j (by unfold VT at z; omega) (by unfold VT at z; omega) (by unfold VT at z; omega) (by unfold VT at z; omega) (by unfold VT at z; omega) (by unfold VT at z; omega) (by unfold VT at z; omega))
    have R1 : f_X10_rowAndLive N ρ I3 J = some I4 := by
      unfold f_X10_rowAndLive
      rw [hB.2.2.2.2.2.2.2.2.2.2.1]
      simp only [Option.bind_some]
      rw [show (0 : Int32) = Int32.ofNat 0 from rfl, g1]
      rfl
    rw [R1]
    simp only [Option.bind_some]
    have e45 : I4 45 3 = vmi P := (ho4 45 3 (by unfold VT; omega)).trans hB.2.2.2.2.2.1
    have hn4 : I4 42 0 = Int32.ofNat (vmn P) := (ho4 42 0 (by unfold VT; omega)).trans hn0
    have L4 : f_X10_living N ρ I4 J (Int32.ofNat (d + 1)) = some (vliv (nxs P (Int32.ofNat d) V.1 (wtr P d V) V.2.2.1 V.2.2.2.2) (vmn P)) := by
      rw [c_living hn4 h8 (by omega) hN, vliv_cong (fun m hm => g5 m (Nat.zero_le _) hm)]
    rw [if_pos xd1, g3, e45, L4]
    simp only [Option.bind_some]
    have hst : vstep P d V = (nxs P (Int32.ofNat d) V.1 (wtr P d V) V.2.2.1 V.2.2.2.2,
     (dk P (Int32.ofNat d) V.1 (wtr P d V) (vmn P)).2.1,
     (rk P (Int32.ofNat d) V.1 (wtr P d V) V.2.2.1 V.2.2.2.2 (vmn P)).1,
     (if (rk P (Int32.ofNat d) V.1 (wtr P d V) V.2.2.1 V.2.2.2.2 (vmn P)).1 < vmi P then -1 else if vliv (nxs P (Int32.ofNat d) V.1 (wtr P d V) V.2.2.1 V.2.2.2.2) (vmn P) ≤ 0 then -1 else Int32.ofNat d),
     (rk P (Int32.ofNat d) V.1 (wtr P d V) V.2.2.1 V.2.2.2.2 (vmn P)).2) := by unfold vstep; rw [if_pos hv]
    have hl1 : V.2.2.2.1 = -1 := by
      unfold von at hv
      by_cases q : V.2.2.2.1 = -1
      · exact q
      · rw [if_neg q] at hv; exact absurd hv (by decide)
    have k76 : I4 76 (d + 1) = (dk P (Int32.ofNat d) V.1 (wtr P d V) (vmn P)).2.1 := (g2 76 _ (by omega) (by omega) (by omega) (by omega) (by omega)).trans f3
    have kgot : ∀ m, m < vmn P → I4 (64 + d) m = vgot P d V m := fun m hm => by
      rw [g2 _ m (by omega) (by omega) (by omega) (by omega) (by omega), f4 m (Nat.zero_le _) hm]
      unfold vgot
      rw [if_pos hv]
    have k16 : I4 48 16 = -1 := (w4 48 16 (by omega) (by omega) (by omega) (by omega) (by omega) (by omega) (by omega)).trans (s3.trans hl1)
    have fin : ∀ b j, ¬ (b = 48 ∧ 12 ≤ j) → ¬ b = 50 + (d + 1) → ¬ b = 64 + d → ¬ (b = 76 ∧ j = d + 1) → ¬ (b = 77 ∧ j = d + 1) → ¬ b = 79 → ¬ b = 80 → I4 b j = I b j := fun b j y1 y2 y3 y4 y5 y6 y7 => (w4 b j (by omega) y4 y3 y5 y2 y6 y7).trans (w1 b j y2 y3 y4 y5 (by omega))
    by_cases q1 : (rk P (Int32.ofNat d) V.1 (wtr P d V) V.2.2.1 V.2.2.2.2 (vmn P)).1 < vmi P
    · rw [if_pos q1]
      refine ⟨I4, rfl, ho4, ?_, kgot, fin⟩
      rw [hst, if_pos q1]
      exact ⟨fun m hm => g5 m (Nat.zero_le _) hm, k76, g3, k16, g4⟩
    · rw [if_neg q1]
      by_cases q2 : vliv (nxs P (Int32.ofNat d) V.1 (wtr P d V) V.2.2.1 V.2.2.2.2) (vmn P) ≤ 0
      · rw [if_pos q2]
        refine ⟨I4, rfl, ho4, ?_, kgot, fin⟩
        rw [hst, if_neg q1, if_pos q2]
        exact ⟨fun m hm => g5 m (Nat.zero_le _) hm, k76, g3, k16, g4⟩
      · rw [if_neg q2]
        refine ⟨u2 I4 48 16 (Int32.ofNat d), rfl, ho4.to (fun b j z => u2_fr (by unfold VT at z; omega)), ?_, fun m hm => (u2_fr (by omega)).trans (kgot m hm), fun b j y1 y2 y3 y4 y5 y6 y7 => (u2_fr (by omega)).trans (fin b j y1 y2 y3 y4 y5 y6 y7)⟩
        rw [hst, if_neg q1, if_neg q2]
        exact ⟨fun m hm => (u2_fr (by omega)).trans (g5 m (Nat.zero_le _) hm), (u2_fr (by omega)).trans k76, (u2_fr (by omega)).trans g3, u2_at, (u2_fr (by omega)).trans g4⟩
  · rw [if_neg hv]
    refine ⟨I1, rfl, ho1, ?_, fun m hm => ?_, fun b j y1 y2 y3 y4 y5 y6 y7 => w1 b j y2 y3 y4 y5 (by omega)⟩
    · have hst : vstep P d V = V := by unfold vstep; rw [if_neg hv]
      rw [hst]
      exact ⟨s2, s76, s77, s3, s4⟩
    · rw [c3 m (by omega)]
      unfold vgot
      rw [if_neg hv]
