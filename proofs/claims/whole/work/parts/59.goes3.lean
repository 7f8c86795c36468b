/-! ===== the pure layer: the model's days ===== -/
theorem m_idle {N : Nat} {ρ : Rh} {J : Nat → Nat → Int64} {n d : Nat} {p1 p2 p3 v17 lf wt rd rs ah : Int32} (hn8 : n ≤ 8) (hd : d < 12) (hw : 0 ≤ wt.toInt) (hr : 0 ≤ rs.toInt) {s : Nat → Int32} : ∀ (e k fuel : Nat) (I : Nat → Nat → Int32), k + e = n → e < fuel → I 89 0 = Int32.ofNat n → (∀ m, m < n → I 100 (8 * d + m) = s m) → ∃ I', f_X12_goes_179 N J ρ p1 p2 p3 (Int32.ofNat d) 0 v17 fuel I lf wt rd rs ah (Int32.ofNat k) = some (I', lf, wt, rd) ∧ (∀ b j, ¬ (b = 100 ∧ 8 * d + 8 + k ≤ j ∧ j < 8 * d + 16) → ¬ (b = 101 ∧ 8 * d + k ≤ j ∧ j < 8 * d + 8) → I' b j = I b j) ∧ (∀ m, k ≤ m → m < n → I' 101 (8 * d + m) = 0 ∧ I' 100 (8 * d + 8 + m) = s m)
  | 0, k, fuel + 1, I, z1, z2, hn, hs => by
    refine ⟨I, ?_, fun _ _ _ _ => rfl, fun m m1 m2 => absurd m1 (by omega)⟩
    rw [f_X12_goes_179.eq_2, hn, if_pos ((p_ge (by omega) (by omega)).mpr (by omega))]
  | e + 1, k, fuel + 1, I, z1, z2, hn, hs => by
    obtain ⟨I', g1, g2, g3⟩ := m_idle (N := N) (ρ := ρ) (J := J) (p1 := p1) (p2 := p2) (p3 := p3) (v17 := v17) (lf := lf) (wt := wt) (rd := rd) (rs := rs) (ah := ah) hn8 hd hw hr (s := s) e (k + 1) fuel (u2 (u2 I 101 (8 * d + k) 0) 100 (8 * d + 8 + k) (s k)) (by omega) (by omega) ((u2_fr (by omega)).trans ((u2_fr (by omega)).trans hn)) (fun m hm => (u2_fr (by omega)).trans ((u2_fr (by omega)).trans (hs m hm)))
    have x1 := p_ixn (k := 8 * d + k) (n := 104) (by omega) (by omega)
    have x1' := p_ixn (k := 8 * d + k) (n := 96) (by omega) (by omega)
    have x2 := p_ixn (k := 8 * d + 8 + k) (n := 104) (by omega) (by omega)
    have t1 := p_tnI (n := 8 * d + k) (by omega)
    have t2 := p_tnI (n := 8 * d + 8 + k) (by omega)
    rw [t1] at x1 x1'
    rw [t2] at x2
    refine ⟨I', ?_, fun b j y1 y2 => (g2 b j (by omega) (by omega)).trans ((u2_fr (by omega)).trans (u2_fr (by omega))), fun m m1 m2 => ?_⟩
    · rw [f_X12_goes_179.eq_2, hn, if_neg (fun z => absurd ((p_ge (by omega) (by omega)).mp z) (by omega)), p_lin8 (by omega), p_lin8b (by omega)]
      simp only [t1, t2, hs k (by omega : k < n), bnd]
      rw [if_pos x1, if_pos trivial]
      simp only [Option.bind_some]
      rw [if_pos trivial]
      simp only [Option.bind_some]
      rw [show (if rs ≤ 0 then some rs else some (0 : Int32)) = some (if rs ≤ 0 then rs else 0) from by split <;> rfl, clamp0 hr]
      simp only [Option.bind_some]
      rw [show (if wt ≤ 0 then some wt else some (0 : Int32)) = some (if wt ≤ 0 then wt else 0) from by split <;> rfl, clamp0 hw]
      simp only [Option.bind_some]
      rw [if_pos trivial]
      simp only [Option.bind_some]
      rw [if_pos x1', if_pos trivial]
      simp only [Option.bind_some]
      rw [if_pos x2, Int32.sub_zero, Int32.sub_zero, Int32.add_zero, p_succ (by omega)]
      exact g1
    · by_cases hmk : m = k
      · subst hmk
        constructor
        · rw [g2 101 _ (by omega) (by omega), u2_fr (by omega), u2_at]
        · rw [g2 100 _ (by omega) (by omega), u2_at]
      · exact g3 m (by omega) m2
def mR (P : VP) (d : Nat) (V : VS) (I : Nat → Nat → Int32) : Prop := (∀ m, m < vmn P → I 100 (8 * d + m) = V.1 m) ∧ I 102 d = V.2.1 ∧ I 103 d = V.2.2.1 ∧ I 89 23 = V.2.2.2.1
def kB (V : VS) : Prop := 0 ≤ V.2.1.toInt ∧ V.2.1.toInt ≤ 9999
theorem wtr_eq {P : VP} {V : VS} {d : Nat} (hr : bw (vrn P d) 0 50) (hk : kB V) : (if V.2.1 + vrn P d ≤ 9999 then V.2.1 + vrn P d else 9999) = wtr P d V ∧ 0 ≤ (wtr P d V).toInt ∧ (wtr P d V).toInt ≤ 9999 := by
  unfold bw at hr
  unfold kB at hk
  have e : (V.2.1 + vrn P d).toInt = V.2.1.toInt + (vrn P d).toInt := p_add (by omega) (by omega)
  unfold wtr
  by_cases h1 : V.2.1.toInt + (vrn P d).toInt < 9999
  · have a1 : V.2.1 + vrn P d < 9999 := by rw [fa_lt, e]; exact h1
    have a2 : V.2.1 + vrn P d ≤ 9999 := by rw [fa_le, e]; show _ ≤ (9999 : Int); omega
    rw [if_pos a1, if_pos a2]
    exact ⟨rfl, by omega, by omega⟩
  · have a1 : ¬ V.2.1 + vrn P d < 9999 := by rw [fa_lt, e]; exact h1
    rw [if_neg a1]
    refine ⟨?_, by decide, by decide⟩
    by_cases a2 : V.2.1 + vrn P d ≤ 9999
    · rw [if_pos a2]
      rw [fa_le, e] at a2
      have a2 : V.2.1.toInt + (vrn P d).toInt ≤ 9999 := a2
      exact p_eq (by rw [e]; show _ = (9999 : Int); omega)
    · rw [if_neg a2]
theorem m_day {N : Nat} (hN : 200 ≤ N) {ρ : Rh} {J : Nat → Nat → Int64} {P : VP} {r : Nat} {set : Int32} {I0 I : Nat → Nat → Int32} (hB : mB N ρ J P r set I0) (ho : moff I0 I) {D d : Nat} (hD : D ≤ 12) (hd : d < D) (h3 : I0 89 3 = Int32.ofNat D) {V : VS} (hR : mR P d V I) (hk : kB V) {fuel : Nat} : ∃ I', f_X12_goes_72 N J ρ (Int32.ofNat r) set (vhid P) (fuel + 1) I V.2.2.2.2 (Int32.ofNat d) = f_X12_goes_72 N J ρ (Int32.ofNat r) set (vhid P) fuel I' (vstep P d V).2.2.2.2 (Int32.ofNat (d + 1)) ∧ moff I0 I' ∧ mR P (d + 1) (vstep P d V) I' ∧ kB (vstep P d V) ∧ (∀ m, m < vmn P → I' 101 (8 * d + m) = vgot P d V m) ∧ (∀ b j, ¬ (b = 89 ∧ j = 23) → ¬ (b = 100 ∧ 8 * d + 8 ≤ j ∧ j < 8 * d + 16) → ¬ (b = 101 ∧ 8 * d ≤ j ∧ j < 8 * d + 8) → ¬ (b = 102 ∧ j = d + 1) → ¬ (b = 103 ∧ j = d + 1) → ¬ b = 112 → ¬ b = 113 → I' b j = I b j) := by
  obtain ⟨v1, v2, v3, v4⟩ := hR
  have hn : I 89 0 = Int32.ofNat (vmn P) := (ho 89 0 (by unfold MT; omega)).trans hB.1.1
  have h8 := hB.1.2.1
  have e3 : I 89 3 = Int32.ofNat D := (ho 89 3 (by unfold MT; omega)).trans h3
  have e5 : I 89 5 = vra P := (ho 89 5 (by unfold MT; omega)).trans hB.2.2.1.1
  have hrn := hB.2.2.2.2.2.1 d (by omega)
  have e93 : I 93 d = vrn P d := (ho 93 d (by unfold MT; omega)).trans hrn.1
  have hsh := hB.2.2.2.2.2.2.2.2.1
  have td := p_tnI (n := d) (by omega)
  have td1 := p_tnI (n := d + 1) (by omega)
  have xd13 := p_ixn (k := d) (n := 13) (by omega) (by omega)
  have xd1 := p_ixn (k := d + 1) (n := 13) (by omega) (by omega)
  have xd := p_ixn (k := d) (n := 12) (by omega) (by omega)
  rw [td] at xd13 xd
  rw [td1] at xd1
  have L1 : f_X12_living N ρ I J (Int32.ofNat d) = some (vliv V.1 (vmn P)) := by
    rw [m_living hn h8 (by omega) hN, vliv_cong (fun m hm => v1 m hm)]
  have DR := m_drinkers hB ho (d := d) (s := V.1) (by omega) v1 hN
  have J11 : (if ((I 89 23) = (-1)) then (Option.bind (f_X12_living N ρ I J (Int32.ofNat d)) fun v10 => (if (v10 ≤ (0)) then some (0 : Int32) else some (1))) else some (0)) = some (if von P V = true then 1 else 0) := by
    rw [v4, L1]
    unfold von
    by_cases a1 : V.2.2.2.1 = -1
    · rw [if_pos a1, if_pos a1]
      simp only [Option.bind_some]
      by_cases a2 : vliv V.1 (vmn P) ≤ 0
      · rw [if_pos a2, if_pos a2, if_neg (by decide)]
      · rw [if_neg a2, if_neg a2, if_pos rfl]
    · rw [if_neg a1, if_neg a1, if_neg (by decide)]
  have step : f_X12_goes_72 N J ρ (Int32.ofNat r) set (vhid P) (fuel + 1) I V.2.2.2.2 (Int32.ofNat d) = (Option.bind (if (if von P V = true then (1 : Int32) else 0) = 0 then some (0 : Int32) else some (vrn P d)) fun j14 => (Option.bind (if V.2.1 + j14 ≤ 9999 then some (V.2.1 + j14) else some 9999) fun j15 => (Option.bind (f_X12_goes_179 N J ρ (Int32.ofNat r) set (vhid P) (Int32.ofNat d) (if von P V = true then 1 else 0) (vcnt P V.1 (vmn P)) N I V.2.2.2.2 j15 V.2.2.1 (vra P) 0 0) fun j43 => (Option.bind (if (if von P V = true then (1 : Int32) else 0) = 0 then some (j43.1 102 d) else some j43.2.2.1) fun j45 => (Option.bind (if (if von P V = true then (1 : Int32) else 0) = 0 then some (u2 (u2 j43.1 102 (d + 1) j45) 103 (d + 1) j43.2.2.2) else (if j43.2.2.2 < (j43.1 89 6) then some (u2 (u2 j43.1 102 (d + 1) j45) 103 (d + 1) j43.2.2.2) else (Option.bind (f_X12_living N ρ (u2 (u2 j43.1 102 (d + 1) j45) 103 (d + 1) j43.2.2.2) J (Int32.ofNat (d + 1))) fun v48 => (if v48 ≤ 0 then some (u2 (u2 j43.1 102 (d + 1) j45) 103 (d + 1) j43.2.2.2) else some (u2 (u2 (u2 j43.1 102 (d + 1) j45) 103 (d + 1) j43.2.2.2) 89 23 (Int32.ofNat d)))))) fun j49 => f_X12_goes_72 N J ρ (Int32.ofNat r) set (vhid P) fuel j49 j43.2.1 (Int32.ofNat (d + 1))))))) := by
    rw [f_X12_goes_72.eq_2, e3, if_neg (fun z => absurd ((p_ge (by omega) (by omega)).mp z) (by omega)), J11]
    simp only [Option.bind_some, td]
    rw [if_pos xd13, p_succ (by omega)]
    simp only [td1, e93, v2, v3, e5, DR, Option.bind_some, if_pos xd, if_pos xd13, if_pos xd1]
  rw [step]
  by_cases hv : von P V = true
  · have hst : vstep P d V = (nxs P (Int32.ofNat d) V.1 (wtr P d V) V.2.2.1 V.2.2.2.2,
     (dk P (Int32.ofNat d) V.1 (wtr P d V) (vmn P)).2.1,
     (rk P (Int32.ofNat d) V.1 (wtr P d V) V.2.2.1 V.2.2.2.2 (vmn P)).1,
     (if (rk P (Int32.ofNat d) V.1 (wtr P d V) V.2.2.1 V.2.2.2.2 (vmn P)).1 < vmi P then -1 else if vliv (nxs P (Int32.ofNat d) V.1 (wtr P d V) V.2.2.1 V.2.2.2.2) (vmn P) ≤ 0 then -1 else Int32.ofNat d),
     (rk P (Int32.ofNat d) V.1 (wtr P d V) V.2.2.1 V.2.2.2.2 (vmn P)).2) := by unfold vstep; rw [if_pos hv]
    have hl1 : V.2.2.2.1 = -1 := by
      unfold von at hv
      by_cases q : V.2.2.2.1 = -1
      · exact q
      · rw [if_neg q] at hv; exact absurd hv (by decide)
    obtain ⟨wq1, wq2, wq3⟩ := wtr_eq (P := P) (V := V) hrn.2 hk
    obtain ⟨I1, f1, f2, f3⟩ := m_men hB (d := d) (by omega) (s := V.1) (w0 := wtr P d V) (r0 := V.2.2.1) (l0 := V.2.2.2.2) wq2 (vmn P) 0 N I ho (by omega) (by omega) v1
    rw [show (rk P (Int32.ofNat d) V.1 (wtr P d V) V.2.2.1 V.2.2.2.2 0) = (V.2.2.1, V.2.2.2.2) from rfl, show (dk P (Int32.ofNat d) V.1 (wtr P d V) 0) = (vra P, wtr P d V, 0) from rfl, show Int32.ofNat 0 = (0 : Int32) from rfl] at f1
    have hone : ¬ (if von P V = true then (1 : Int32) else 0) = 0 := by rw [if_pos hv]; decide
    have ho1 : moff I0 I1 := ho.to (fun b j z => f2 b j (by unfold MT at z; omega) (by unfold MT at z; omega) (by unfold MT at z; omega) (by unfold MT at z; omega))
    have k16 : I1 89 6 = vmi P := (ho1 89 6 (by unfold MT; omega)).trans hB.2.2.2.2.1
    obtain ⟨W, hW⟩ : ∃ W, W = u2 (u2 I1 102 (d + 1) (dk P (Int32.ofNat d) V.1 (wtr P d V) (vmn P)).2.1) 103 (d + 1) (rk P (Int32.ofNat d) V.1 (wtr P d V) V.2.2.1 V.2.2.2.2 (vmn P)).1 := ⟨_, rfl⟩
    have wW : ∀ b j, ¬ (b = 102 ∧ j = d + 1) → ¬ (b = 103 ∧ j = d + 1) → W b j = I1 b j := fun b j y1 y2 => by rw [hW]; exact (u2_fr (by omega)).trans (u2_fr (by omega))
    have hoW : moff I0 W := ho1.to (fun b j z => wW b j (by unfold MT at z; omega) (by unfold MT at z; omega))
    have W100 : ∀ m, m < vmn P → W 100 (8 * (d + 1) + m) = nxs P (Int32.ofNat d) V.1 (wtr P d V) V.2.2.1 V.2.2.2.2 m := fun m hm => by
      rw [wW _ _ (by omega) (by omega), show 8 * (d + 1) + m = 8 * d + 8 + m by omega]
      exact (f3 m (Nat.zero_le _) hm).2
    have L4 : f_X12_living N ρ W J (Int32.ofNat (d + 1)) = some (vliv (nxs P (Int32.ofNat d) V.1 (wtr P d V) V.2.2.1 V.2.2.2.2) (vmn P)) := by
      rw [m_living ((hoW 89 0 (by unfold MT; omega)).trans hB.1.1) h8 (by omega) hN, vliv_cong (fun m hm => W100 m hm)]
    have W102 : W 102 (d + 1) = (dk P (Int32.ofNat d) V.1 (wtr P d V) (vmn P)).2.1 := by rw [hW, u2_fr (by omega), u2_at]
    have W103 : W 103 (d + 1) = (rk P (Int32.ofNat d) V.1 (wtr P d V) V.2.2.1 V.2.2.2.2 (vmn P)).1 := by rw [hW, u2_at]
    have W23 : W 89 23 = -1 := by rw [wW _ _ (by omega) (by omega), f2 _ _ (by omega) (by omega) (by omega) (by omega), v4, hl1]
    have WF : ∀ b j, ¬ (b = 100 ∧ 8 * d + 8 ≤ j ∧ j < 8 * d + 16) → ¬ (b = 101 ∧ 8 * d ≤ j ∧ j < 8 * d + 8) → ¬ (b = 102 ∧ j = d + 1) → ¬ (b = 103 ∧ j = d + 1) → ¬ b = 112 → ¬ b = 113 → W b j = I b j := fun b j y1 y2 y3 y4 y5 y6 => (wW b j y3 y4).trans (f2 b j (by omega) (by omega) y5 y6)
    have Wg : ∀ m, m < vmn P → W 101 (8 * d + m) = vgot P d V m := fun m hm => by
      rw [wW _ _ (by omega) (by omega), (f3 m (Nat.zero_le _) hm).1]
      unfold vgot
      rw [if_pos hv]
    obtain ⟨kb1, kb2, kb3, kb4⟩ := dk_bw (d := Int32.ofNat d) (s := V.1) (w0 := wtr P d V) h8 hB.2.2.1.2.1 wq2 hsh (k := vmn P) (Nat.le_refl _)
    have hkb : kB (vstep P d V) := by rw [hst]; exact ⟨kb3, by show ((dk P (Int32.ofNat d) V.1 (wtr P d V) (vmn P)).2.1).toInt ≤ 9999; omega⟩
    rw [if_neg hone]
    simp only [Option.bind_some]
    rw [show (if V.2.1 + vrn P d ≤ 9999 then some (V.2.1 + vrn P d) else some (9999 : Int32)) = some (if V.2.1 + vrn P d ≤ 9999 then V.2.1 + vrn P d else 9999) from by split <;> rfl, wq1]
    simp only [Option.bind_some]
    rw [show (if von P V = true then (1 : Int32) else 0) = 1 from if_pos hv, f1]
    simp only [Option.bind_some]
    rw [if_neg (by decide)]
    simp only [Option.bind_some]
    rw [if_neg (by decide), ← hW, k16, L4]
    simp only [Option.bind_some]
    by_cases q1 : (rk P (Int32.ofNat d) V.1 (wtr P d V) V.2.2.1 V.2.2.2.2 (vmn P)).1 < vmi P
    · rw [if_pos q1] at hst
      rw [if_pos q1]
      simp only [Option.bind_some]
      refine ⟨W, by rw [hst], hoW, ?_, hkb, Wg, fun b j y1 y2 y3 y4 y5 y6 y7 => WF b j y2 y3 y4 y5 y6 y7⟩
      rw [hst]
      exact ⟨W100, W102, W103, W23⟩
    · rw [if_neg q1] at hst
      rw [if_neg q1]
      by_cases q2 : vliv (nxs P (Int32.ofNat d) V.1 (wtr P d V) V.2.2.1 V.2.2.2.2) (vmn P) ≤ 0
      · rw [if_pos q2] at hst
        rw [if_pos q2]
        simp only [Option.bind_some]
        refine ⟨W, by rw [hst], hoW, ?_, hkb, Wg, fun b j y1 y2 y3 y4 y5 y6 y7 => WF b j y2 y3 y4 y5 y6 y7⟩
        rw [hst]
        exact ⟨W100, W102, W103, W23⟩
      · rw [if_neg q2] at hst
        rw [if_neg q2]
        simp only [Option.bind_some]
        refine ⟨u2 W 89 23 (Int32.ofNat d), by rw [hst], hoW.to (fun b j z => u2_fr (by unfold MT at z; omega)), ?_, hkb, fun m hm => (u2_fr (by omega)).trans (Wg m hm), fun b j y1 y2 y3 y4 y5 y6 y7 => (u2_fr (by omega)).trans (WF b j y2 y3 y4 y5 y6 y7)⟩
        rw [hst]
        exact ⟨fun m hm => (u2_fr (by omega)).trans (W100 m hm), (u2_fr (by omega)).trans W102, (u2_fr (by omega)).trans W103, u2_at⟩
  · have hst : vstep P d V = V := by unfold vstep; rw [if_neg hv]
    rw [hst]
    have hzero : (if von P V = true then (1 : Int32) else 0) = 0 := if_neg hv
    obtain ⟨I1, f1, f2, f3⟩ := m_idle (N := N) (ρ := ρ) (J := J) (p1 := Int32.ofNat r) (p2 := set) (p3 := vhid P) (v17 := vcnt P V.1 (vmn P)) (lf := V.2.2.2.2) (wt := V.2.1) (rd := V.2.2.1) (rs := vra P) (ah := 0) h8 (by omega) hk.1 hB.2.2.1.2.1 (s := V.1) (vmn P) 0 N I (by omega) (by omega) hn v1
    rw [show Int32.ofNat 0 = (0 : Int32) from rfl] at f1
    rw [hzero, if_pos rfl]
    simp only [Option.bind_some]
    rw [Int32.add_zero, if_pos (by rw [fa_le]; exact hk.2)]
    simp only [Option.bind_some]
    rw [f1]
    simp only [Option.bind_some]
    rw [if_pos trivial]
    simp only [Option.bind_some]
    rw [if_pos trivial]
    simp only [Option.bind_some]
    have g102 : I1 102 d = V.2.1 := (f2 102 d (by omega) (by omega)).trans v2
    rw [g102]
    have WF : ∀ b j, ¬ (b = 100 ∧ 8 * d + 8 ≤ j ∧ j < 8 * d + 16) → ¬ (b = 101 ∧ 8 * d ≤ j ∧ j < 8 * d + 8) → ¬ (b = 102 ∧ j = d + 1) → ¬ (b = 103 ∧ j = d + 1) → (u2 (u2 I1 102 (d + 1) V.2.1) 103 (d + 1) V.2.2.1) b j = I b j := fun b j y1 y2 y3 y4 => (u2_fr (by omega)).trans ((u2_fr (by omega)).trans (f2 b j (by omega) (by omega)))
    refine ⟨_, rfl, ho.to (fun b j z => WF b j (by unfold MT at z; omega) (by unfold MT at z; omega) (by unfold MT at z; omega) (by unfold MT at z; omega)), ⟨fun m hm => ?_, ?_, u2_at, ?_⟩, hk, fun m hm => ?_, fun b j y1 y2 y3 y4 y5 y6 y7 => WF b j y2 y3 y4 y5⟩
    · rw [u2_fr (by omega), u2_fr (by omega), show 8 * (d + 1) + m = 8 * d + 8 + m by omega]
      exact (f3 m (Nat.zero_le _) hm).2
    · rw [u2_fr (by omega), u2_at]
    · rw [WF 89 23 (by omega) (by omega) (by omega) (by omega)]; exact v4
    · rw [u2_fr (by omega), u2_fr (by omega), (f3 m (Nat.zero_le _) hm).1]
      unfold vgot
      rw [if_neg hv]
