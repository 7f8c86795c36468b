/-! ===== the pure layer: the class's voyage, rowing and the days ===== -/
theorem c_facts {N : Nat} {ρ : Rh} {J : Nat → Nat → Int64} {P : VP} {a l : Nat} {I0 I : Nat → Nat → Int32} (hB : cB N ρ J P a l I0) (ho : off I0 I) {d m : Nat} (hd : d < 12) (hm : m < vmn P) {s : Nat → Int32} {w0 : Int32} (h13 : I 48 13 = Int32.ofNat d) (hs : I (50 + d) m = s m) (hg : I (64 + d) m = gotv P (Int32.ofNat d) s w0 m) (h14 : I 48 14 = vcnt P s (vmn P)) : ∃ I', f_X10_findFacts N ρ I J (Int32.ofNat m) = some I' ∧ (∀ b j, ¬ b = 79 → I' b j = I b j) ∧ (∀ q, q < 6 → I' 79 q = fct P (Int32.ofNat d) s w0 m q) := by
  obtain ⟨⟨b1, b2⟩, b3, b4, b5, b6, b7, b8, b9, b10, ⟨b11, b11'⟩, b12, b13, b14, b15, b16⟩ := hB
  have td := p_tnI (n := d) (by omega)
  have tm := p_tnI (n := m) (by omega)
  have xd13 := p_ixn (k := d) (n := 13) (by omega) (by omega)
  have xd := p_ixn (k := d) (n := 12) (by omega) (by omega)
  have xm := p_ixn (k := m) (n := 8) (by omega) (by omega)
  rw [td] at xd13 xd
  rw [tm] at xm
  have e44 : I 44 m = vrw P m := (ho 44 m (by unfold VT; omega)).trans (b3 m hm)
  have ea1 : I a 1 = vmo P := (ho a 1 (by unfold VT; omega)).trans b11'
  refine ⟨u2 (u2 (u2 (u2 (u2 (u2 I 79 0 (s m)) 79 1 (vrw P m)) 79 2 (Int32.ofNat d)) 79 3 (gotv P (Int32.ofNat d) s w0 m)) 79 4 (vcnt P s (vmn P))) 79 5 (vmo P), ?_, fun b j z => (u2_fr (by omega)).trans ((u2_fr (by omega)).trans ((u2_fr (by omega)).trans ((u2_fr (by omega)).trans ((u2_fr (by omega)).trans (u2_fr (by omega)))))), fun q hq => ?_⟩
  · unfold f_X10_findFacts
    rw [h13]
    simp only [td, tm, bnd, hs, e44]
    rw [if_pos xd13, if_pos xm, if_pos xm, if_pos xd, if_pos xm, b9]
    simp only [Option.bind_some]
    rw [if_pos b10]
    have c1 : (u2 (u2 (u2 I 79 0 (s m)) 79 1 (vrw P m)) 79 2 (Int32.ofNat d)) (64 + d) m = gotv P (Int32.ofNat d) s w0 m := (u2_fr (by omega)).trans ((u2_fr (by omega)).trans ((u2_fr (by omega)).trans hg))
    rw [c1, h14]
    rw [show (u2 (u2 (u2 (u2 (u2 I 79 0 (s m)) 79 1 (vrw P m)) 79 2 (Int32.ofNat d)) 79 3 (gotv P (Int32.ofNat d) s w0 m)) 79 4 (vcnt P s (vmn P))) a 1 = vmo P from (u2_fr (by omega)).trans ((u2_fr (by omega)).trans ((u2_fr (by omega)).trans ((u2_fr (by omega)).trans ((u2_fr (by omega)).trans ea1))))]
  · have c : q = 0 ∨ q = 1 ∨ q = 2 ∨ q = 3 ∨ q = 4 ∨ q = 5 := by omega
    rcases c with c | c | c | c | c | c <;> subst c <;> simp [u2_ap, fct]
theorem c_hidden {N : Nat} {ρ : Rh} {J : Nat → Nat → Int64} {I : Nat → Nat → Int32} {h l : Int32} {m : Nat} (h11 : I 48 11 = h) (h12 : I 48 12 = l) : ∃ I', f_X10_fromHidden N ρ I J (Int32.ofNat m) = some (I', if Int32.ofNat m = h then (if 0 < l then 1 else 0) else 0) ∧ (∀ b j, ¬ (b = 48 ∧ j = 12) → I' b j = I b j) ∧ I' 48 12 = if Int32.ofNat m = h then (if 0 < l then l - 1 else l) else l := by
  unfold f_X10_fromHidden
  rw [h11, h12]
  by_cases c1 : Int32.ofNat m = h
  · rw [if_pos c1, if_pos c1, if_pos c1]
    by_cases c2 : 0 < l
    · rw [if_pos c2, if_pos c2, if_pos c2]
      exact ⟨_, rfl, fun b j z => u2_fr (by omega), u2_at⟩
    · rw [if_neg c2, if_neg c2, if_neg c2]
      exact ⟨_, rfl, fun _ _ _ => rfl, h12⟩
  · rw [if_neg c1, if_neg c1, if_neg c1]
    exact ⟨_, rfl, fun _ _ _ => rfl, h12⟩
theorem c_rows {N : Nat} {ρ : Rh} {J : Nat → Nat → Int64} {P : VP} {a l : Nat} {I0 : Nat → Nat → Int32} (hB : cB N ρ J P a l I0) {d : Nat} (hd : d < 12) {s : Nat → Int32} {w0 r0 l0 : Int32} : ∀ (e k fuel : Nat) (I : Nat → Nat → Int32), off I0 I → k + e = vmn P → e < fuel → I 48 13 = Int32.ofNat d → (∀ m, m < vmn P → I (50 + d) m = s m) → I 48 14 = vcnt P s (vmn P) → (∀ m, m < vmn P → I (64 + d) m = gotv P (Int32.ofNat d) s w0 m) → I 77 (d + 1) = (rk P (Int32.ofNat d) s w0 r0 l0 k).1 → I 48 12 = (rk P (Int32.ofNat d) s w0 r0 l0 k).2 → (∀ m, k ≤ m → m < vmn P → I (50 + (d + 1)) m = s m) → ∃ I', f_X10_rowAndLive_10 N J ρ l fuel I (Int32.ofNat k) = some I' ∧ (∀ b j, ¬ (b = 48 ∧ j = 12) → ¬ (b = 77 ∧ j = d + 1) → ¬ (b = 50 + (d + 1) ∧ k ≤ j) → ¬ b = 79 → ¬ b = 80 → I' b j = I b j) ∧ I' 77 (d + 1) = (rk P (Int32.ofNat d) s w0 r0 l0 (vmn P)).1 ∧ I' 48 12 = (rk P (Int32.ofNat d) s w0 r0 l0 (vmn P)).2 ∧ (∀ m, k ≤ m → m < vmn P → I' (50 + (d + 1)) m = nxs P (Int32.ofNat d) s w0 r0 l0 m)
  | 0, k, fuel + 1, I, ho, z1, z2, h13, hs, h14, hg, h77, h12, hn' => by
    have hn : I 42 0 = Int32.ofNat (vmn P) := (ho 42 0 (by unfold VT; omega)).trans hB.1.1
    have h8 := hB.1.2
    refine ⟨I, ?_, fun _ _ _ _ _ _ _ => rfl, by rw [h77, show k = vmn P by omega], by rw [h12, show k = vmn P by omega], fun m m1 m2 => absurd m1 (by omega)⟩
    rw [f_X10_rowAndLive_10.eq_2, hn, if_pos ((p_ge (by omega) (by omega)).mpr (by omega))]
  | e + 1, k, fuel + 1, I, ho, z1, z2, h13, hs, h14, hg, h77, h12, hn' => by
    have hn : I 42 0 = Int32.ofNat (vmn P) := (ho 42 0 (by unfold VT; omega)).trans hB.1.1
    have h8 := hB.1.2
    have td := p_tnI (n := d) (by omega)
    have td1 := p_tnI (n := d + 1) (by omega)
    have tk := p_tnI (n := k) (by omega)
    have xd13 := p_ixn (k := d) (n := 13) (by omega) (by omega)
    have xd1 := p_ixn (k := d + 1) (n := 13) (by omega) (by omega)
    have xd := p_ixn (k := d) (n := 12) (by omega) (by omega)
    have xk := p_ixn (k := k) (n := 8) (by omega) (by omega)
    rw [td] at xd13 xd
    rw [td1] at xd1
    rw [tk] at xk
    have hrk : rk P (Int32.ofNat d) s w0 r0 l0 (k + 1) = if s k ≤ 0 then rk P (Int32.ofNat d) s w0 r0 l0 k else ((rk P (Int32.ofNat d) s w0 r0 l0 k).1 + cl (vro P (fct P (Int32.ofNat d) s w0 k)) 99, if Int32.ofNat k = vhid P then (if 0 < (rk P (Int32.ofNat d) s w0 r0 l0 k).2 then (rk P (Int32.ofNat d) s w0 r0 l0 k).2 - 1 else (rk P (Int32.ofNat d) s w0 r0 l0 k).2) else (rk P (Int32.ofNat d) s w0 r0 l0 k).2) := rfl
    by_cases h0 : s k ≤ 0
    · rw [if_pos h0] at hrk
      obtain ⟨I', g1, g2, g3, g4, g5⟩ := c_rows hB hd (s := s) (w0 := w0) (r0 := r0) (l0 := l0) e (k + 1) fuel I ho (by omega) (by omega) h13 hs h14 hg (by rw [h77, hrk]) (by rw [h12, hrk]) (fun m m1 m2 => hn' m (by omega) m2)
      refine ⟨I', ?_, fun b j y1 y2 y3 y4 y5 => g2 b j y1 y2 (by omega) y4 y5, g3, g4, fun m m1 m2 => ?_⟩
      · rw [f_X10_rowAndLive_10.eq_2, hn, if_neg (fun z => absurd ((p_ge (by omega) (by omega)).mp z) (by omega)), h13]
        simp only [td, tk, hs k (by omega : k < vmn P)]
        rw [if_pos xd13, if_pos xk, if_pos h0]
        simp only [Option.bind_some]
        rw [p_succ (by omega)]
        exact g1
      · by_cases hmk : m = k
        · subst hmk
          rw [g2 _ m (by omega) (by omega) (by omega) (by omega) (by omega), hn' m (Nat.le_refl _) m2]
          unfold nxs
          rw [if_pos h0]
        · exact g5 m (by omega) m2
    · rw [if_neg h0] at hrk
      have hkn : k < vmn P := by omega
      obtain ⟨I1, f1, f2, f3⟩ := c_facts hB ho hd hkn (s := s) (w0 := w0) h13 (hs k hkn) (hg k hkn) h14
      have ho1 : off I0 I1 := ho.to (fun b j z => f2 b j (by unfold VT at z; omega))
      obtain ⟨I2, r1, r2⟩ := hB.2.2.2.2.2.2.2.2.2.2.2.2.2.1 I1 (fct P (Int32.ofNat d) s w0 k) ho1 f3
      have q13 : I1 48 13 = Int32.ofNat d := (f2 48 13 (by omega)).trans h13
      have q77 : I1 77 (d + 1) = (rk P (Int32.ofNat d) s w0 r0 l0 k).1 := (f2 77 (d + 1) (by omega)).trans h77
      obtain ⟨I3, hI3⟩ : ∃ X, X = u2 I2 77 (d + 1) ((rk P (Int32.ofNat d) s w0 r0 l0 k).1 + cl (vro P (fct P (Int32.ofNat d) s w0 k)) 99) := ⟨_, rfl⟩
      have w3 : ∀ b j, ¬ b = 79 → ¬ b = 80 → ¬ (b = 77 ∧ j = d + 1) → I3 b j = I b j := fun b j y1 y2 y3 => by
        rw [hI3, u2_fr (by omega), r2 b j y2, f2 b j y1]
      have w3f : ∀ q, q < 6 → I3 79 q = fct P (Int32.ofNat d) s w0 k q := fun q hq => by
        rw [hI3, u2_fr (by omega), r2 79 q (by omega)]; exact f3 q hq
      have ho3 : off I0 I3 := ho.to (fun b j z => w3 b j (by unfold VT at z; omega) (by unfold VT at z; omega) (by unfold VT at z; omega))
      obtain ⟨I4, n1, n2⟩ := hB.2.2.2.2.2.2.2.2.2.2.2.2.2.2 I3 (fct P (Int32.ofNat d) s w0 k) ho3 w3f
      have w4 : ∀ b j, ¬ b = 79 → ¬ b = 80 → ¬ (b = 77 ∧ j = d + 1) → I4 b j = I b j := fun b j y1 y2 y3 => (n2 b j y2).trans (w3 b j y1 y2 y3)
      obtain ⟨I5, u1, u2', u3⟩ := c_hidden (N := N) (ρ := ρ) (J := J) (I := I4) (h := vhid P) (l := (rk P (Int32.ofNat d) s w0 r0 l0 k).2) (m := k) ((w4 48 11 (by omega) (by omega) (by omega)).trans ((ho 48 11 (by unfold VT; omega)).trans hB.2.2.2.2.1)) ((w4 48 12 (by omega) (by omega) (by omega)).trans h12)
      have w5 : ∀ b j, ¬ b = 79 → ¬ b = 80 → ¬ (b = 77 ∧ j = d + 1) → ¬ (b = 48 ∧ j = 12) → I5 b j = I b j := fun b j y1 y2 y3 y4 => (u2' b j y4).trans (w4 b j y1 y2 y3)
      obtain ⟨v, hv⟩ : ∃ v, v = nxs P (Int32.ofNat d) s w0 r0 l0 k := ⟨_, rfl⟩
      have hv' : v = cl (s k + (gotv P (Int32.ofNat d) s w0 k + bes P (Int32.ofNat d) s w0 r0 l0 k) - cl (vnd P (fct P (Int32.ofNat d) s w0 k)) 20) 99 := by rw [hv]; unfold nxs; rw [if_neg h0]
      have hbs : bes P (Int32.ofNat d) s w0 r0 l0 k = if Int32.ofNat k = vhid P then (if 0 < (rk P (Int32.ofNat d) s w0 r0 l0 k).2 then 1 else 0) else 0 := rfl
      rw [← hbs] at u1
      obtain ⟨I', g1, g2, g3, g4, g5⟩ := c_rows hB hd (s := s) (w0 := w0) (r0 := r0) (l0 := l0) e (k + 1) fuel (u2 I5 (50 + (d + 1)) k v) (ho.to (fun b j z => (u2_fr (by unfold VT at z; omega)).trans (w5 b j (by unfold VT at z; omega) (by unfold VT at z; omega) (by unfold VT at z; omega) (by unfold VT at z; omega)))) (by omega) (by omega)
        ((u2_fr (by omega)).trans ((w5 48 13 (by omega) (by omega) (by omega) (by omega)).trans h13)) (fun m hm => (u2_fr (by omega)).trans ((w5 _ m (by omega) (by omega) (by omega) (by omega)).trans (hs m hm))) ((u2_fr (by omega)).trans ((w5 48 14 (by omega) (by omega) (by omega) (by omega)).trans h14)) (fun m hm => (u2_fr (by omega)).trans ((w5 _ m (by omega) (by omega) (by omega) (by omega)).trans (hg m hm)))
        (by rw [u2_fr (by omega), u2' 77 _ (by omega), n2 77 _ (by omega), hI3, u2_at, hrk]) (by rw [u2_fr (by omega), u3, hrk]) (fun m m1 m2 => (u2_fr (by omega)).trans ((w5 _ m (by omega) (by omega) (by omega) (by omega)).trans (hn' m (by omega) m2)))
      refine ⟨I', ?_, fun b j y1 y2 y3 y4 y5 => (g2 b j y1 y2 (by omega) y4 y5).trans ((u2_fr (by omega)).trans (w5 b j y4 y5 y2 y1)), g3, g4, fun m m1 m2 => ?_⟩
      · have k13 : I4 48 13 = Int32.ofNat d := (w4 48 13 (by omega) (by omega) (by omega)).trans h13
        have k5 : I5 48 13 = Int32.ofNat d := (w5 48 13 (by omega) (by omega) (by omega) (by omega)).trans h13
        have kg : I4 (64 + d) k = gotv P (Int32.ofNat d) s w0 k := (w4 _ k (by omega) (by omega) (by omega)).trans (hg k hkn)
        have ks : I5 (50 + d) k = s k := (w5 _ k (by omega) (by omega) (by omega) (by omega)).trans (hs k hkn)
        rw [f_X10_rowAndLive_10.eq_2, hn, if_neg (fun z => absurd ((p_ge (by omega) (by omega)).mp z) (by omega)), h13]
        simp only [td, tk, hs k hkn]
        rw [if_pos xd13, if_pos xk, if_neg h0, f1]
        simp only [Option.bind_some]
        rw [q13, p_succ (by omega)]
        simp only [td1, q77]
        rw [if_pos xd1, if_pos hB.2.2.2.2.2.2.2.2.2.2.2.1, r1]
        simp only [Option.bind_some, c_bound (show (0 : Int) ≤ (99 : Int32).toInt by decide), c_bound (show (0 : Int) ≤ (20 : Int32).toInt by decide), bnd]
        rw [if_pos xd1, ← hI3, n1]
        simp only [Option.bind_some]
        rw [k13, td, if_pos xd, if_pos xk, u1]
        simp only [Option.bind_some]
        rw [k5, p_succ (by omega), td1, td, kg, ks, if_pos xd1, if_pos xd13, if_pos xk, ← hv', if_pos xk]
        simp only [Option.bind_some]
        rw [p_succ (by omega)]
        exact g1
      · by_cases hmk : m = k
        · subst hmk
          rw [g2 _ m (by omega) (by omega) (by omega) (by omega) (by omega), u2_at, hv]
        · exact g5 m (by omega) m2
