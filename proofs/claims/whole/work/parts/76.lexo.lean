/-! ===== the pure layer: next of the model ===== -/
def wtk3 (i : Int32) : Int32 := if 2 ≤ i then (if 8 ≤ i then (if i = 11 then -1 else 4 + i - 8) else 2) else 3
def wtk4 (i : Int32) : Int32 := if 2 ≤ i then i - 2 else i
theorem wlink {x : Nat} (hx : x < 1099511627776) : wtk3 (Int32.ofNat (wfx (Int64.ofNat x))) = mtok (wcd x) ∧ ((0 ≤ (wcd x).toInt ∨ wcd x = -16 ∨ wcd x = -17 ∨ (-6 ≤ (wcd x).toInt ∧ (wcd x).toInt < 0)) → wtk4 (Int32.ofNat (wfx (Int64.ofNat x))) = mval (wcd x)) := by
  by_cases a0 : x = 1852138852
  · subst a0; decide
  by_cases a1 : x = 7499639
  · subst a1; decide
  by_cases a2 : x = 495874699877
  · subst a2; decide
  by_cases a3 : x = 1919907699
  · subst a3; decide
  by_cases a4 : x = 6578553
  · subst a4; decide
  by_cases a5 : x = 495672455781
  · subst a5; decide
  by_cases a6 : x = 418430678629
  · subst a6; decide
  by_cases a7 : x = 1836020325
  · subst a7; decide
  by_cases a8 : x = 28530
  · subst a8; decide
  by_cases a9 : x = 6385252
  · subst a9; decide
  by_cases a10 : x = 7237492
  · subst a10; decide
  have nx : ∀ y : Nat, y < 1099511627776 → x ≠ y → ¬ Int64.ofNat y = Int64.ofNat x := fun y hy hne z => hne (by have := congrArg Int64.toInt z; rw [q_nL (by omega), q_nL (by omega)] at this; omega)
  have e : wfx (Int64.ofNat x) = 11 := by
    unfold wfx
    rw [if_neg (show ¬ wdJ 0 = Int64.ofNat x from nx 1852138852 (by decide) a0)]
    rw [if_neg (show ¬ wdJ 1 = Int64.ofNat x from nx 7499639 (by decide) a1)]
    rw [if_neg (show ¬ wdJ 2 = Int64.ofNat x from nx 495874699877 (by decide) a2)]
    rw [if_neg (show ¬ wdJ 3 = Int64.ofNat x from nx 1919907699 (by decide) a3)]
    rw [if_neg (show ¬ wdJ 4 = Int64.ofNat x from nx 6578553 (by decide) a4)]
    rw [if_neg (show ¬ wdJ 5 = Int64.ofNat x from nx 495672455781 (by decide) a5)]
    rw [if_neg (show ¬ wdJ 6 = Int64.ofNat x from nx 418430678629 (by decide) a6)]
    rw [if_neg (show ¬ wdJ 7 = Int64.ofNat x from nx 1836020325 (by decide) a7)]
    rw [if_neg (show ¬ wdJ 8 = Int64.ofNat x from nx 28530 (by decide) a8)]
    rw [if_neg (show ¬ wdJ 9 = Int64.ofNat x from nx 6385252 (by decide) a9)]
    rw [if_neg (show ¬ wdJ 10 = Int64.ofNat x from nx 7237492 (by decide) a10)]
  have e2 : wcd x = -22 := by
    unfold wcd
    rw [if_neg a0, if_neg a1, if_neg a8, if_neg a9, if_neg a10, if_neg a2, if_neg a3, if_neg a4, if_neg a5, if_neg a6, if_neg a7]
  rw [e, e2]
  decide
theorem snk (c : Nat) (hc : c < 256) : (if c = 40 ∨ c = 41 ∨ c = 59 ∨ c = 43 ∨ c = 45 ∨ c = 42 ∨ c = 60 ∨ c = 61 then Int32.ofNat c else -1) = mtok (sgn c) ∧ ¬ (0 ≤ (sgn c).toInt ∨ sgn c = -16 ∨ sgn c = -17 ∨ (-6 ≤ (sgn c).toInt ∧ (sgn c).toInt < 0)) := by
  have key : ∀ c, c < 256 → (if c = 40 ∨ c = 41 ∨ c = 59 ∨ c = 43 ∨ c = 45 ∨ c = 42 ∨ c = 60 ∨ c = 61 then Int32.ofNat c else -1) = mtok (sgn c) ∧ ¬ (0 ≤ (sgn c).toInt ∨ sgn c = -16 ∨ sgn c = -17 ∨ (-6 ≤ (sgn c).toInt ∧ (sgn c).toInt < 0)) := by
    have k2 : ∀ c ∈ List.range 256, (if c = 40 ∨ c = 41 ∨ c = 59 ∨ c = 43 ∨ c = 45 ∨ c = 42 ∨ c = 60 ∨ c = 61 then Int32.ofNat c else -1) = mtok (sgn c) ∧ ¬ (0 ≤ (sgn c).toInt ∨ sgn c = -16 ∨ sgn c = -17 ∨ (-6 ≤ (sgn c).toInt ∧ (sgn c).toInt < 0)) := by decide +kernel
    exact fun c h => k2 c (List.mem_range.mpr h)
  exact key c hc
theorem m_next {N : Nat} (hN : 200 ≤ N) {ρ : Rh} {I : Nat → Nat → Int32} {J : Nat → Nat → Int64} {sz p : Nat} (hw : vWords J) (hB : tBy I) (hsz : sz ≤ 160) (hp : p ≤ sz) (h1 : I 89 14 = Int32.ofNat sz) (h7 : I 89 37 = Int32.ofNat p) : ∃ I', f_X12_next N ρ I J = some I' ∧ (∀ b j, ¬ (b = 89 ∧ (j = 37 ∨ j = 38 ∨ j = 39 ∨ j = 40)) → I' b j = I b j) ∧ I' 89 38 = Int32.ofNat (lb (tc I) sz p) ∧ I' 89 37 = Int32.ofNat (le (tc I) sz p) ∧ mTk I' (lk (tc I) sz p) := by
  obtain ⟨lb1, lb2⟩ := lb_bw (c := tc I) hp
  have tB : ∀ X : Nat → Nat → Int32, (∀ k, X 36 k = I 36 k) → (∀ k, X 97 k = I 97 k) → tBy X := fun X x1 x2 k hk => by rw [x1, x2]; exact hB k hk
  have tcE : ∀ X : Nat → Nat → Int32, (∀ k, X 97 k = I 97 k) → tc X = tc I := fun X x2 => funext fun k => by unfold tc; rw [x2]
  obtain ⟨I1, a1, a2, a3⟩ := m_ws (N := N) (ρ := ρ) (J := J) hsz (sz - p) p N I (by omega) (by omega) hB h1 h7
  have e14 : I1 89 14 = Int32.ofNat sz := (a2 89 14 (by omega)).trans h1
  have e37 : I1 89 37 = Int32.ofNat (lb (tc I) sz p) := a3
  unfold f_X12_next
  rw [a1]
  simp only [Option.bind_some]
  rw [e37, e14]
  obtain ⟨b, hb⟩ : ∃ b, b = lb (tc I) sz p := ⟨_, rfl⟩
  rw [← hb] at lb1 lb2 e37 ⊢
  obtain ⟨Y, hY⟩ : ∃ Y, Y = u2 (u2 (u2 I1 89 38 (Int32.ofNat b)) 89 39 0) 89 40 0 := ⟨_, rfl⟩
  rw [← hY]
  have yF : ∀ q j, ¬ (q = 89 ∧ (j = 37 ∨ j = 38 ∨ j = 39 ∨ j = 40)) → Y q j = I q j := fun q j z => by
    rw [hY]
    exact (u2_fr (by omega)).trans ((u2_fr (by omega)).trans ((u2_fr (by omega)).trans (a2 q j (by omega))))
  have y37 : Y 89 37 = Int32.ofNat b := by rw [hY]; exact (u2_fr (by omega)).trans ((u2_fr (by omega)).trans ((u2_fr (by omega)).trans e37))
  have y38 : Y 89 38 = Int32.ofNat b := by rw [hY, u2_fr (by omega), u2_fr (by omega), u2_at]
  have y39 : Y 89 39 = 0 := by rw [hY, u2_fr (by omega), u2_at]
  have y40 : Y 89 40 = 0 := by rw [hY, u2_at]
  have y14 : Y 89 14 = Int32.ofNat sz := (yF 89 14 (by omega)).trans h1
  have yB : tBy Y := tB _ (fun k => yF _ k (by omega)) (fun k => yF _ k (by omega))
  have yc : tc Y = tc I := tcE _ (fun k => yF _ k (by omega))
  by_cases hlt : b < sz
  · obtain ⟨t1, t2, t3⟩ := tc_byte hB (k := b) (by omega)
    have e97 : I1 97 b = I 97 b := a2 97 b (by omega)
    rw [if_neg (fun z => absurd (by have := congrArg Int32.toInt z; rw [p_nI (by omega), p_nI (by omega)] at this; omega) (show ¬ b = sz by omega)), if_pos (p_ixn (by omega) (by omega)), p_tnI (by omega), e97, m_in, m_in]
    simp only [Option.bind_some, p_b01]
    by_cases hL : isL (tc I) b = true
    · have hbb := isL_iff.mp hL
      rw [if_neg (by rw [t3]; show ¬ ¬ ((97 : Int) ≤ _ ∧ _ ≤ (122 : Int)); omega)]
      obtain ⟨n, I2, q, g1, g2, g3, g4, g5⟩ := m_lets (N := N) (ρ := ρ) (J := J) (b := b) hsz (sz - b) 0 N 0 Y (by omega) (by omega) yB y14 y37 (fun _ => rfl)
      rw [Nat.add_zero, yc] at g4
      rw [yc] at g5
      rw [show Int32.ofNat 0 = (0 : Int32) from rfl] at g1
      have nsz : b + n ≤ sz := by
        have := (run_all (P := isL (tc I)) (sz := sz) (sz - b) b (by omega)).2.1
        omega
      have hl : ∀ i, i < n → tc I (b + i) < 256 := fun i hi => (tc_byte hB (k := b + i) (by omega)).2.1
      obtain ⟨w, hww⟩ : ∃ w, w = if n ≤ 5 then q else 0 := ⟨_, rfl⟩
      have lets : f_X12_letters N ρ Y J = some (I2, w) := by
        unfold f_X12_letters
        rw [g1]
        simp only [Option.bind_some]
        rw [hww]
        by_cases hn : n ≤ 5
        · rw [if_pos (by rw [fa_le, p_nI (by omega)]; show _ ≤ (5 : Int); omega), if_pos hn]
        · rw [if_neg (by rw [fa_le, p_nI (by omega)]; show ¬ _ ≤ (5 : Int); omega), if_neg hn]
      rw [lets]
      simp only [Option.bind_some]
      rw [m_find hN hw]
      simp only [Option.bind_some]
      have lkE : lk (tc I) sz p = if n ≤ 5 then wcd (pkN (tc I) b n) else -22 := by
        unfold lk
        rw [← hb, if_pos hlt, if_pos hL, ← g4, Nat.add_sub_cancel_left]
      have leE : le (tc I) sz p = b + n := by
        unfold le
        rw [← hb, if_pos hlt, if_pos hL, ← g4]
      have lw : wtk3 (Int32.ofNat (wfx w)) = mtok (lk (tc I) sz p) ∧ ((0 ≤ (lk (tc I) sz p).toInt ∨ lk (tc I) sz p = -16 ∨ lk (tc I) sz p = -17 ∨ (-6 ≤ (lk (tc I) sz p).toInt ∧ (lk (tc I) sz p).toInt < 0)) → wtk4 (Int32.ofNat (wfx w)) = mval (lk (tc I) sz p)) := by
        rw [lkE, hww]
        by_cases hn : n ≤ 5
        · rw [if_pos hn, if_pos hn, g5 hn]
          have h1 := pkN_lt (c := tc I) (b := b) (n := n) hl
          have h2 := Nat.pow_le_pow_right (n := 256) (by decide) hn
          have h3 : (256 : Nat) ^ 5 = 1099511627776 := by decide
          exact wlink (by omega)
        · rw [if_neg hn, if_neg hn]
          decide
      have j3 : ∀ i : Int32, (if 2 ≤ i then (if 8 ≤ i then (if i = 11 then some (-1 : Int32) else some (4 + i - 8)) else some 2) else some 3) = some (wtk3 i) := by
        intro i; unfold wtk3
        split
        · split
          · split <;> rfl
          · rfl
        · rfl
      have j4 : ∀ i : Int32, (if 2 ≤ i then some (i - 2) else some i) = some (wtk4 i) := by
        intro i; unfold wtk4; split <;> rfl
      rw [j3, j4]
      simp only [Option.bind_some]
      refine ⟨_, rfl, fun q j z => (u2_fr (by omega)).trans ((u2_fr (by omega)).trans ((g2 q j (by omega)).trans (yF q j z))), ?_, ?_, ?_, ?_⟩
      · rw [u2_fr (by omega), u2_fr (by omega), g2 89 38 (by omega), y38]
      · rw [u2_fr (by omega), u2_fr (by omega), g3, leE]
      · rw [u2_fr (by omega), u2_at]; exact lw.1
      · intro z; rw [u2_at]; exact lw.2 z
    · have hbb : ¬ (97 ≤ tc I b ∧ tc I b ≤ 122) := fun z => hL (isL_iff.mpr z)
      rw [if_pos (by rw [t3]; show ¬ ((97 : Int) ≤ _ ∧ _ ≤ (122 : Int)); omega)]
      by_cases hD : isD (tc I) b = true
      · have hdd := isD_iff.mp hD
        rw [if_neg (by rw [t3]; show ¬ ¬ ((48 : Int) ≤ _ ∧ _ ≤ (57 : Int)); omega)]
        obtain ⟨n, I2, g1, g2, g3, g4, g5⟩ := m_digs (N := N) (ρ := ρ) (J := J) (b := b) hsz (sz - b) 0 N Y (by omega) (by omega) yB y14 y37 (fun i hi => absurd hi (by omega)) (fun _ => y40)
        rw [Nat.add_zero, yc] at g4
        rw [yc] at g5
        rw [show Int32.ofNat 0 = (0 : Int32) from rfl] at g1
        have ra := run_all (P := isD (tc I)) (sz := sz) (sz - b) b (by omega)
        rw [g1]
        simp only [Option.bind_some]
        have lkE : lk (tc I) sz p = if n ≤ 4 then Int32.ofNat (nvN (tc I) b n) else -22 := by
          unfold lk
          rw [← hb, if_pos hlt, if_neg hL, if_pos hD, ← g4, Nat.add_sub_cancel_left]
        have leE : le (tc I) sz p = b + n := by
          unfold le
          rw [← hb, if_pos hlt, if_neg hL, if_pos hD, ← g4]
        by_cases hn : n ≤ 4
        · rw [if_pos hn] at lkE
          have h1 := nvN_le (c := tc I) (b := b) (n := n) (fun i hi => (isD_iff.mp (ra.2.2.1 (b + i) (by omega) (by omega))).2)
          have h2 := Nat.pow_le_pow_right (n := 10) (by decide) hn
          have h3 : (10 : Nat) ^ 4 = 10000 := by decide
          have s1 := p_nI (n := nvN (tc I) b n) (by omega)
          rw [if_pos (by rw [fa_le, p_nI (by omega)]; show _ ≤ (4 : Int); omega)]
          simp only [Option.bind_some]
          refine ⟨_, rfl, fun q j z => (u2_fr (by omega)).trans ((g2 q j (by omega)).trans (yF q j z)), ?_, ?_, ?_, ?_⟩
          · rw [u2_fr (by omega), g2 89 38 (by omega), y38]
          · rw [u2_fr (by omega), g3, leE]
          · rw [u2_at, lkE]; unfold mtok; rw [if_pos (by omega)]
          · intro z
            rw [u2_fr (by omega), g5 hn, lkE]; unfold mval; rw [if_pos (by omega)]
        · rw [if_neg hn] at lkE
          rw [if_neg (by rw [fa_le, p_nI (by omega)]; show ¬ _ ≤ (4 : Int); omega)]
          simp only [Option.bind_some]
          refine ⟨_, rfl, fun q j z => (u2_fr (by omega)).trans ((g2 q j (by omega)).trans (yF q j z)), ?_, ?_, ?_, ?_⟩
          · rw [u2_fr (by omega), g2 89 38 (by omega), y38]
          · rw [u2_fr (by omega), g3, leE]
          · rw [u2_at, lkE]; decide
          · intro z
            rw [lkE] at z
            exact absurd z (by decide)
      · have hdd : ¬ (48 ≤ tc I b ∧ tc I b ≤ 57) := fun z => hD (isD_iff.mpr z)
        rw [if_pos (by rw [t3]; show ¬ ((48 : Int) ≤ _ ∧ _ ≤ (57 : Int)); omega)]
        have lkE : lk (tc I) sz p = sgn (tc I b) := by
          unfold lk
          rw [← hb, if_pos hlt, if_neg hL, if_neg hD]
        have leE : le (tc I) sz p = b + 1 := by
          unfold le
          rw [← hb, if_pos hlt, if_neg hL, if_neg hD]
        have e9 : I 97 b = Int32.ofNat (tc I b) := p_eq (by rw [t3, p_nI (by omega)])
        have T : ∀ v : Nat, v < 256 → (Int32.ofNat (tc I b) = Int32.ofNat v ↔ tc I b = v) := fun v hv => ⟨fun z => by have := congrArg Int32.toInt z; rw [p_nI (by omega), p_nI (by omega)] at this; omega, fun z => by rw [z]⟩
        obtain ⟨k1, k2⟩ := snk (tc I b) t2
        rw [e9]
        have j8 : ∃ x : Int32, (if (Int32.ofNat (tc I b) = (40)) then some (1 : Int32) else (if (Int32.ofNat (tc I b) = (41)) then some (1) else (if (Int32.ofNat (tc I b) = (59)) then some (1) else (if (Int32.ofNat (tc I b) = (43)) then some (1) else (if (Int32.ofNat (tc I b) = (45)) then some (1) else (if (Int32.ofNat (tc I b) = (42)) then some (1) else (if (Int32.ofNat (tc I b) = (60)) then some (1) else (if (Int32.ofNat (tc I b) = (61)) then some (1) else some (0))))))))) = some x ∧ (if x = 0 then some (-1 : Int32) else some (Int32.ofNat (tc I b))) = some (mtok (sgn (tc I b))) := by
          rw [← k1]
          by_cases a40 : tc I b = 40
          · rw [if_pos (show Int32.ofNat (tc I b) = 40 from (T 40 (by decide)).mpr a40)]
            exact ⟨1, rfl, by rw [if_neg (by decide), if_pos (by omega)]⟩
          by_cases a41 : tc I b = 41
          · rw [if_neg (show ¬ Int32.ofNat (tc I b) = 40 from fun z => a40 ((T 40 (by decide)).mp z)), if_pos (show Int32.ofNat (tc I b) = 41 from (T 41 (by decide)).mpr a41)]
            exact ⟨1, rfl, by rw [if_neg (by decide), if_pos (by omega)]⟩
          by_cases a59 : tc I b = 59
          · rw [if_neg (show ¬ Int32.ofNat (tc I b) = 40 from fun z => a40 ((T 40 (by decide)).mp z)), if_neg (show ¬ Int32.ofNat (tc I b) = 41 from fun z => a41 ((T 41 (by decide)).mp z)), if_pos (show Int32.ofNat (tc I b) = 59 from (T 59 (by decide)).mpr a59)]
            exact ⟨1, rfl, by rw [if_neg (by decide), if_pos (by omega)]⟩
          by_cases a43 : tc I b = 43
          · rw [if_neg (show ¬ Int32.ofNat (tc I b) = 40 from fun z => a40 ((T 40 (by decide)).mp z)), if_neg (show ¬ Int32.ofNat (tc I b) = 41 from fun z => a41 ((T 41 (by decide)).mp z)), if_neg (show ¬ Int32.ofNat (tc I b) = 59 from fun z => a59 ((T 59 (by decide)).mp z)), if_pos (show Int32.ofNat (tc I b) = 43 from (T 43 (by decide)).mpr a43)]
            exact ⟨1, rfl, by rw [if_neg (by decide), if_pos (by omega)]⟩
          by_cases a45 : tc I b = 45
          · rw [if_neg (show ¬ Int32.ofNat (tc I b) = 40 from fun z => a40 ((T 40 (by decide)).mp z)), if_neg (show ¬ Int32.ofNat (tc I b) = 41 from fun z => a41 ((T 41 (by decide)).mp z)), if_neg (show ¬ Int32.ofNat (tc I b) = 59 from fun z => a59 ((T 59 (by decide)).mp z)), if_neg (show ¬ Int32.ofNat (tc I b) = 43 from fun z => a43 ((T 43 (by decide)).mp z)), if_pos (show Int32.ofNat (tc I b) = 45 from (T 45 (by decide)).mpr a45)]
            exact ⟨1, rfl, by rw [if_neg (by decide), if_pos (by omega)]⟩
          by_cases a42 : tc I b = 42
          · rw [if_neg (show ¬ Int32.ofNat (tc I b) = 40 from fun z => a40 ((T 40 (by decide)).mp z)), if_neg (show ¬ Int32.ofNat (tc I b) = 41 from fun z => a41 ((T 41 (by decide)).mp z)), if_neg (show ¬ Int32.ofNat (tc I b) = 59 from fun z => a59 ((T 59 (by decide)).mp z)), if_neg (show ¬ Int32.ofNat (tc I b) = 43 from fun z => a43 ((T 43 (by decide)).mp z)), if_neg (show ¬ Int32.ofNat (tc I b) = 45 from fun z => a45 ((T 45 (by decide)).mp z)), if_pos (show Int32.ofNat (tc I b) = 42 from (T 42 (by decide)).mpr a42)]
            exact ⟨1, rfl, by rw [if_neg (by decide), if_pos (by omega)]⟩
          by_cases a60 : tc I b = 60
          · rw [if_neg (show ¬ Int32.ofNat (tc I b) = 40 from fun z => a40 ((T 40 (by decide)).mp z)), if_neg (show ¬ Int32.ofNat (tc I b) = 41 from fun z => a41 ((T 41 (by decide)).mp z)), if_neg (show ¬ Int32.ofNat (tc I b) = 59 from fun z => a59 ((T 59 (by decide)).mp z)), if_neg (show ¬ Int32.ofNat (tc I b) = 43 from fun z => a43 ((T 43 (by decide)).mp z)), if_neg (show ¬ Int32.ofNat (tc I b) = 45 from fun z => a45 ((T 45 (by decide)).mp z)), if_neg (show ¬ Int32.ofNat (tc I b) = 42 from fun z => a42 ((T 42 (by decide)).mp z)), if_pos (show Int32.ofNat (tc I b) = 60 from (T 60 (by decide)).mpr a60)]
            exact ⟨1, rfl, by rw [if_neg (by decide), if_pos (by omega)]⟩
          by_cases a61 : tc I b = 61
          · rw [if_neg (show ¬ Int32.ofNat (tc I b) = 40 from fun z => a40 ((T 40 (by decide)).mp z)), if_neg (show ¬ Int32.ofNat (tc I b) = 41 from fun z => a41 ((T 41 (by decide)).mp z)), if_neg (show ¬ Int32.ofNat (tc I b) = 59 from fun z => a59 ((T 59 (by decide)).mp z)), if_neg (show ¬ Int32.ofNat (tc I b) = 43 from fun z => a43 ((T 43 (by decide)).mp z)), if_neg (show ¬ Int32.ofNat (tc I b) = 45 from fun z => a45 ((T 45 (by decide)).mp z)), if_neg (show ¬ Int32.ofNat (tc I b) = 42 from fun z => a42 ((T 42 (by decide)).mp z)), if_neg (show ¬ Int32.ofNat (tc I b) = 60 from fun z => a60 ((T 60 (by decide)).mp z)), if_pos (show Int32.ofNat (tc I b) = 61 from (T 61 (by decide)).mpr a61)]
            exact ⟨1, rfl, by rw [if_neg (by decide), if_pos (by omega)]⟩
          rw [if_neg (show ¬ Int32.ofNat (tc I b) = 40 from fun z => a40 ((T 40 (by decide)).mp z)), if_neg (show ¬ Int32.ofNat (tc I b) = 41 from fun z => a41 ((T 41 (by decide)).mp z)), if_neg (show ¬ Int32.ofNat (tc I b) = 59 from fun z => a59 ((T 59 (by decide)).mp z)), if_neg (show ¬ Int32.ofNat (tc I b) = 43 from fun z => a43 ((T 43 (by decide)).mp z)), if_neg (show ¬ Int32.ofNat (tc I b) = 45 from fun z => a45 ((T 45 (by decide)).mp z)), if_neg (show ¬ Int32.ofNat (tc I b) = 42 from fun z => a42 ((T 42 (by decide)).mp z)), if_neg (show ¬ Int32.ofNat (tc I b) = 60 from fun z => a60 ((T 60 (by decide)).mp z)), if_neg (show ¬ Int32.ofNat (tc I b) = 61 from fun z => a61 ((T 61 (by decide)).mp z))]
          exact ⟨0, rfl, by rw [if_pos rfl, if_neg (by omega)]⟩
        obtain ⟨x, x1, x2⟩ := j8
        rw [x1]
        simp only [Option.bind_some]
        rw [x2]
        simp only [Option.bind_some]
        refine ⟨_, rfl, fun q j z => (u2_fr (by omega)).trans ((u2_fr (by omega)).trans (yF q j z)), ?_, ?_, ?_, ?_⟩
        · rw [u2_fr (by omega), u2_fr (by omega), y38]
        · rw [u2_at, leE, p_succ (by omega)]
        · rw [u2_fr (by omega), u2_at, lkE]
        · intro z
          rw [lkE] at z
          exact absurd z k2
  · have hbs : b = sz := by omega
    have lkE : lk (tc I) sz p = -21 := by unfold lk; rw [← hb, if_neg hlt]
    have leE : le (tc I) sz p = b := by unfold le; rw [← hb, if_neg hlt]
    rw [if_pos (by rw [hbs])]
    refine ⟨Y, rfl, yF, y38, by rw [y37, leE], ?_, ?_⟩
    · rw [y39, lkE]; decide
    · intro z
      rw [lkE] at z
      exact absurd z (by decide)
