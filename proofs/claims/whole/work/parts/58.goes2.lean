/-! ===== the pure layer: the model's men on a day ===== -/
theorem p_lin8b {d k : Nat} (h : 8 * d + 8 + k < 2147483648) : (8 : Int32) * Int32.ofNat d + 8 + Int32.ofNat k = Int32.ofNat (8 * d + 8 + k) := by
  have e := p_lin8 (t := d) (k := 8) (by omega)
  rw [show (8 : Int32) * Int32.ofNat d + 8 = (8 : Int32) * Int32.ofNat d + Int32.ofNat 8 from rfl, e]
  have e1 := p_nI (n := 8 * d + 8) (by omega)
  have e2 := p_nI (n := k) (by omega)
  refine p_eq ?_
  rw [p_add (by omega) (by omega), e1, e2, p_nI h]; omega
theorem m_men {N : Nat} {ρ : Rh} {J : Nat → Nat → Int64} {P : VP} {r : Nat} {set : Int32} {I0 : Nat → Nat → Int32} (hB : mB N ρ J P r set I0) {d : Nat} (hd : d < 12) {s : Nat → Int32} {w0 r0 l0 : Int32} (hw0 : 0 ≤ w0.toInt) : ∀ (e k fuel : Nat) (I : Nat → Nat → Int32), moff I0 I → k + e = vmn P → e < fuel → (∀ m, m < vmn P → I 100 (8 * d + m) = s m) → ∃ I', f_X12_goes_179 N J ρ (Int32.ofNat r) set (vhid P) (Int32.ofNat d) 1 (vcnt P s (vmn P)) fuel I (rk P (Int32.ofNat d) s w0 r0 l0 k).2 (dk P (Int32.ofNat d) s w0 k).2.1 (rk P (Int32.ofNat d) s w0 r0 l0 k).1 (dk P (Int32.ofNat d) s w0 k).1 (dk P (Int32.ofNat d) s w0 k).2.2 (Int32.ofNat k) = some (I', (rk P (Int32.ofNat d) s w0 r0 l0 (vmn P)).2, (dk P (Int32.ofNat d) s w0 (vmn P)).2.1, (rk P (Int32.ofNat d) s w0 r0 l0 (vmn P)).1) ∧ (∀ b j, ¬ (b = 100 ∧ 8 * d + 8 + k ≤ j ∧ j < 8 * d + 16) → ¬ (b = 101 ∧ 8 * d + k ≤ j ∧ j < 8 * d + 8) → ¬ b = 112 → ¬ b = 113 → I' b j = I b j) ∧ (∀ m, k ≤ m → m < vmn P → I' 101 (8 * d + m) = gotv P (Int32.ofNat d) s w0 m ∧ I' 100 (8 * d + 8 + m) = nxs P (Int32.ofNat d) s w0 r0 l0 m)
  | 0, k, fuel + 1, I, ho, z1, z2, hs => by
    have hn : I 89 0 = Int32.ofNat (vmn P) := (ho 89 0 (by unfold MT; omega)).trans hB.1.1
    have h8 := hB.1.2.1
    refine ⟨I, ?_, fun _ _ _ _ _ _ => rfl, fun m m1 m2 => absurd m1 (by omega)⟩
    rw [f_X12_goes_179.eq_2, hn, if_pos ((p_ge (by omega) (by omega)).mpr (by omega)), show k = vmn P by omega]
  | e + 1, k, fuel + 1, I, ho, z1, z2, hs => by
    have hn : I 89 0 = Int32.ofNat (vmn P) := (ho 89 0 (by unfold MT; omega)).trans hB.1.1
    have h8 := hB.1.2.1
    have hr8 := hB.1.2.2
    have hkn : k < vmn P := by omega
    have hk := kdb_if (x := s k) (hB.2.2.2.1 k hkn)
    obtain ⟨b1, b2, b3, b4⟩ := dk_bw (d := Int32.ofNat d) (s := s) (w0 := w0) h8 hB.2.2.1.2.1 hw0 hB.2.2.2.2.2.2.2.2.1 (k := k) (by omega)
    have hdk : dk P (Int32.ofNat d) s w0 (k + 1) = ((dk P (Int32.ofNat d) s w0 k).1 - gotv P (Int32.ofNat d) s w0 k, (dk P (Int32.ofNat d) s w0 k).2.1 - gotv P (Int32.ofNat d) s w0 k, (dk P (Int32.ofNat d) s w0 k).2.2 + (if kdb P k (s k) = true then 1 else 0)) := by
      by_cases hq : kdb P k (s k) = true
      · show (if kdb P k (s k) = true then _ else _) = _
        rw [if_pos hq, if_pos hq]
        unfold gotv
        rw [if_pos hq]
      · show (if kdb P k (s k) = true then _ else _) = _
        rw [if_neg hq, if_neg hq]
        unfold gotv
        rw [if_neg hq, Int32.sub_zero, Int32.sub_zero, Int32.add_zero]
    have hrk : rk P (Int32.ofNat d) s w0 r0 l0 (k + 1) = if s k ≤ 0 then rk P (Int32.ofNat d) s w0 r0 l0 k else ((rk P (Int32.ofNat d) s w0 r0 l0 k).1 + cl (vro P (fct P (Int32.ofNat d) s w0 k)) 99, if Int32.ofNat k = vhid P then (if 0 < (rk P (Int32.ofNat d) s w0 r0 l0 k).2 then (rk P (Int32.ofNat d) s w0 r0 l0 k).2 - 1 else (rk P (Int32.ofNat d) s w0 r0 l0 k).2) else (rk P (Int32.ofNat d) s w0 r0 l0 k).2) := rfl
    have x1 := p_ixn (k := 8 * d + k) (n := 104) (by omega) (by omega)
    have x1' := p_ixn (k := 8 * d + k) (n := 96) (by omega) (by omega)
    have x2 := p_ixn (k := 8 * d + 8 + k) (n := 104) (by omega) (by omega)
    have xk := p_ixn (k := k) (n := 8) (by omega) (by omega)
    have xr := p_ixn (k := r) (n := 8) hr8 (by omega)
    have t1 := p_tnI (n := 8 * d + k) (by omega)
    have t2 := p_tnI (n := 8 * d + 8 + k) (by omega)
    have tk := p_tnI (n := k) (by omega)
    have tr := p_tnI (n := r) (by omega)
    rw [t1] at x1 x1'
    rw [t2] at x2
    rw [tk] at xk
    rw [tr] at xr
    -- who drinks
    have J27 : (if (1 : Int32) = 0 then some (0 : Int32) else (if s k ≤ 0 then some 0 else (if (((set) >>> (Int32.ofNat k &&& 31)) &&& 1) = 1 then some 1 else some 0))) = some (if kdb P k (s k) = true then 1 else 0) := by
      rw [if_neg (by decide)]
      by_cases h0 : s k ≤ 0
      · rw [if_pos h0, if_neg (fun z => (hk.mp z).1 h0)]
      · rw [if_neg h0]
        by_cases hb : (((set) >>> (Int32.ofNat k &&& 31)) &&& 1) = 1
        · rw [if_pos hb, if_pos (hk.mpr ⟨h0, hb⟩)]
        · rw [if_neg hb, if_neg (fun z => hb (hk.mp z).2)]
    -- what he gets
    obtain ⟨sv, hsv⟩ : ∃ sv, (if (if kdb P k (s k) = true then (1 : Int32) else 0) = 0 then some (0 : Int32) else (Option.bind (f_X12_share N ρ I J (Int32.ofNat r) (Int32.ofNat k) (Int32.ofNat d) (dk P (Int32.ofNat d) s w0 k).2.2 (vcnt P s (vmn P))) fun v28 => some v28)) = some sv ∧ (if (dk P (Int32.ofNat d) s w0 k).2.1 ≤ (if (dk P (Int32.ofNat d) s w0 k).1 ≤ sv then (dk P (Int32.ofNat d) s w0 k).1 else sv) then (dk P (Int32.ofNat d) s w0 k).2.1 else (if (dk P (Int32.ofNat d) s w0 k).1 ≤ sv then (dk P (Int32.ofNat d) s w0 k).1 else sv)) = gotv P (Int32.ofNat d) s w0 k := by
      by_cases hq : kdb P k (s k) = true
      · have hc := vcnt_pos (P := P) (s := s) (m := k) (n := vmn P) (by omega) hkn hq
        refine ⟨vsh P (Int32.ofNat d) (s k) (vcnt P s (vmn P)) (dk P (Int32.ofNat d) s w0 k).2.2 k, ?_, ?_⟩
        · rw [if_pos hq, if_neg (by decide), hB.2.2.2.2.2.2.2.1 I ho d k (s k) (vcnt P s (vmn P)) (dk P (Int32.ofNat d) s w0 k).2.2 hkn hd (by omega) (hs k hkn)]
          rfl
        · rw [gmin_m]
          unfold gotv
          rw [if_pos hq]
      · refine ⟨0, ?_, ?_⟩
        · rw [if_neg hq, if_pos rfl]
        · rw [clamp0 b1, clamp0 b3]
          unfold gotv
          rw [if_neg hq]
    obtain ⟨hsv1, hsv2⟩ := hsv
    have JJ : (if (dk P (Int32.ofNat d) s w0 k).1 ≤ sv then some (dk P (Int32.ofNat d) s w0 k).1 else some sv) = some (if (dk P (Int32.ofNat d) s w0 k).1 ≤ sv then (dk P (Int32.ofNat d) s w0 k).1 else sv) := by split <;> rfl
    have JK : ∀ z : Int32, (if (dk P (Int32.ofNat d) s w0 k).2.1 ≤ z then some (dk P (Int32.ofNat d) s w0 k).2.1 else some z) = some (if (dk P (Int32.ofNat d) s w0 k).2.1 ≤ z then (dk P (Int32.ofNat d) s w0 k).2.1 else z) := by intro z; split <;> rfl
    have J32 : (if (if kdb P k (s k) = true then (1 : Int32) else 0) = 0 then some (0 : Int32) else some 1) = some (if kdb P k (s k) = true then 1 else 0) := by
      by_cases hq : kdb P k (s k) = true
      · rw [if_pos hq, if_neg (by decide)]
      · rw [if_neg hq, if_pos rfl]
    obtain ⟨g, hg⟩ : ∃ g, g = gotv P (Int32.ofNat d) s w0 k := ⟨_, rfl⟩
    -- the state that the next man finds
    have tail : ∀ (X : Nat → Nat → Int32) (v : Int32), v = nxs P (Int32.ofNat d) s w0 r0 l0 k → moff I0 X → (∀ b j, ¬ (b = 101 ∧ j = 8 * d + k) → ¬ b = 112 → ¬ b = 113 → X b j = I b j) → X 101 (8 * d + k) = g → ∃ I', f_X12_goes_179 N J ρ (Int32.ofNat r) set (vhid P) (Int32.ofNat d) 1 (vcnt P s (vmn P)) fuel (u2 X 100 (8 * d + 8 + k) v) (rk P (Int32.ofNat d) s w0 r0 l0 (k + 1)).2 ((dk P (Int32.ofNat d) s w0 k).2.1 - g) (rk P (Int32.ofNat d) s w0 r0 l0 (k + 1)).1 ((dk P (Int32.ofNat d) s w0 k).1 - g) ((dk P (Int32.ofNat d) s w0 k).2.2 + (if kdb P k (s k) = true then 1 else 0)) (Int32.ofNat (k + 1)) = some (I', (rk P (Int32.ofNat d) s w0 r0 l0 (vmn P)).2, (dk P (Int32.ofNat d) s w0 (vmn P)).2.1, (rk P (Int32.ofNat d) s w0 r0 l0 (vmn P)).1) ∧ (∀ b j, ¬ (b = 100 ∧ 8 * d + 8 + k ≤ j ∧ j < 8 * d + 16) → ¬ (b = 101 ∧ 8 * d + k ≤ j ∧ j < 8 * d + 8) → ¬ b = 112 → ¬ b = 113 → I' b j = I b j) ∧ (∀ m, k ≤ m → m < vmn P → I' 101 (8 * d + m) = gotv P (Int32.ofNat d) s w0 m ∧ I' 100 (8 * d + 8 + m) = nxs P (Int32.ofNat d) s w0 r0 l0 m) := by
      intro X v hv hX hXf hXg
      obtain ⟨I', f1, f2, f3⟩ := m_men hB hd (s := s) (w0 := w0) (r0 := r0) (l0 := l0) hw0 e (k + 1) fuel (u2 X 100 (8 * d + 8 + k) v) (hX.to (fun b j z => u2_fr (by unfold MT at z; omega))) (by omega) (by omega) (fun m hm => (u2_fr (by omega)).trans ((hXf 100 _ (by omega) (by omega) (by omega)).trans (hs m hm)))
      rw [hdk, ← hg] at f1
      refine ⟨I', f1, fun b j y1 y2 y3 y4 => (f2 b j (by omega) (by omega) y3 y4).trans ((u2_fr (by omega)).trans (hXf b j (by omega) y3 y4)), fun m m1 m2 => ?_⟩
      by_cases hmk : m = k
      · subst hmk
        constructor
        · rw [f2 101 _ (by omega) (by omega) (by omega) (by omega), u2_fr (by omega), hXg, hg]
        · rw [f2 100 _ (by omega) (by omega) (by omega) (by omega), u2_at, hv]
      · exact f3 m (by omega) m2
    have start : ∀ K : Option ((Nat → Nat → Int32) × Int32 × Int32 × Int32), (Option.bind (if (1 : Int32) = 0 then some ((rk P (Int32.ofNat d) s w0 r0 l0 k).2, (rk P (Int32.ofNat d) s w0 r0 l0 k).1, s k, (u2 I 101 (8 * d + k) g)) else (if s k ≤ 0 then some ((rk P (Int32.ofNat d) s w0 r0 l0 k).2, (rk P (Int32.ofNat d) s w0 r0 l0 k).1, s k, (u2 I 101 (8 * d + k) g)) else (if ¬ (Int32.ofNat k < 0 ∨ 8 ≤ k) then (if ¬ (Int32.ofNat r < 0 ∨ 8 ≤ r) then (Option.bind (f_X12_worth N ρ (u2 (u2 (u2 (u2 (u2 (u2 (u2 I 101 (8 * d + k) g) 113 0 (s k)) 113 1 (I 91 k)) 113 2 (Int32.ofNat d)) 113 3 g) 113 4 (vcnt P s (vmn P))) 113 5 (I 95 r)) J (1) (99)) fun v36 => ((if (Int32.ofNat k = vhid P) then (if ((rk P (Int32.ofNat d) s w0 r0 l0 k).2 ≤ (0)) then some (0) else some (1)) else some (0)) : Option (Int32)).bind fun j37 => (Option.bind (f_X12_worth N ρ v36.1 J (0) (20)) fun v38 => (bnd (((s k + g) + j37) - v38.2) fun x39 => (((if ((0) ≤ x39) then (if (x39 ≤ (99)) then some x39 else some (99)) else some (0)) : Option (Int32)).bind fun j40 => some (((rk P (Int32.ofNat d) s w0 r0 l0 k).2 - j37), ((rk P (Int32.ofNat d) s w0 r0 l0 k).1 + v36.2), j40, v38.1))))) else none) else none))) (fun j41 => (if ¬ (Int32.ofNat (8 * d + 8 + k) < 0 ∨ 104 ≤ 8 * d + 8 + k) then f_X12_goes_179 N J ρ (Int32.ofNat r) set (vhid P) (Int32.ofNat d) 1 (vcnt P s (vmn P)) fuel (u2 j41.2.2.2 100 (8 * d + 8 + k) j41.2.2.1) j41.1 ((dk P (Int32.ofNat d) s w0 k).2.1 - g) j41.2.1 ((dk P (Int32.ofNat d) s w0 k).1 - g) ((dk P (Int32.ofNat d) s w0 k).2.2 + (if kdb P k (s k) = true then 1 else 0)) (Int32.ofNat (k + 1)) else none))) = K → f_X12_goes_179 N J ρ (Int32.ofNat r) set (vhid P) (Int32.ofNat d) 1 (vcnt P s (vmn P)) (fuel + 1) I (rk P (Int32.ofNat d) s w0 r0 l0 k).2 (dk P (Int32.ofNat d) s w0 k).2.1 (rk P (Int32.ofNat d) s w0 r0 l0 k).1 (dk P (Int32.ofNat d) s w0 k).1 (dk P (Int32.ofNat d) s w0 k).2.2 (Int32.ofNat k) = K := by
      intro K hK
      rw [f_X12_goes_179.eq_2, hn, if_neg (fun z => absurd ((p_ge (by omega) (by omega)).mp z) (by omega)), p_lin8 (by omega), p_lin8b (by omega)]
      simp only [t1, t2, tk, tr, hs k hkn, bnd]
      rw [if_pos x1, J27]
      simp only [Option.bind_some]
      rw [hsv1]
      simp only [Option.bind_some]
      rw [JJ]
      simp only [Option.bind_some]
      rw [JK]
      simp only [Option.bind_some]
      rw [hsv2, J32]
      simp only [Option.bind_some]
      rw [if_pos x1', ← hg, p_succ (by omega)]
      exact hK
    by_cases h0 : s k ≤ 0
    · rw [if_pos h0] at hrk
      obtain ⟨I', f1, f2, f3⟩ := tail (u2 I 101 (8 * d + k) g) (s k) (by unfold nxs; rw [if_pos h0]) (ho.to (fun b j z => u2_fr (by unfold MT at z; omega))) (fun b j y1 y2 y3 => u2_fr (by omega)) u2_at
      refine ⟨I', start _ ?_, f2, f3⟩
      rw [if_neg (by decide), if_pos h0]
      simp only [Option.bind_some]
      rw [if_pos x2]
      rw [hrk] at f1
      exact f1
    · rw [if_neg h0] at hrk
      have e91 : I 91 k = vrw P k := (ho 91 k (by unfold MT; omega)).trans (hB.2.1 k hkn)
      have e95 : I 95 r = vmo P := (ho 95 r (by unfold MT; omega)).trans hB.2.2.2.2.2.2.1
      obtain ⟨Y, hY⟩ : ∃ Y, Y = u2 (u2 (u2 (u2 (u2 (u2 (u2 I 101 (8 * d + k) g) 113 0 (s k)) 113 1 (I 91 k)) 113 2 (Int32.ofNat d)) 113 3 g) 113 4 (vcnt P s (vmn P))) 113 5 (I 95 r) := ⟨_, rfl⟩
      have wY : ∀ b j, ¬ (b = 101 ∧ j = 8 * d + k) → ¬ b = 113 → Y b j = I b j := fun b j y1 y2 => by
        rw [hY]
        exact (u2_fr (by omega)).trans ((u2_fr (by omega)).trans ((u2_fr (by omega)).trans ((u2_fr (by omega)).trans ((u2_fr (by omega)).trans ((u2_fr (by omega)).trans (u2_fr (by omega)))))))
      have hoY : moff I0 Y := ho.to (fun b j z => wY b j (by unfold MT at z; omega) (by unfold MT at z; omega))
      have fY : ∀ q, q < 6 → Y 113 q = fct P (Int32.ofNat d) s w0 k q := by
        intro q hq
        rw [hY]
        have c : q = 0 ∨ q = 1 ∨ q = 2 ∨ q = 3 ∨ q = 4 ∨ q = 5 := by omega
        rcases c with c | c | c | c | c | c <;> subst c <;> simp [u2_ap, fct, hg, e91, e95]
      have gY : Y 101 (8 * d + k) = g := by
        rw [hY, u2_fr (by omega), u2_fr (by omega), u2_fr (by omega), u2_fr (by omega), u2_fr (by omega), u2_fr (by omega), u2_at]
      obtain ⟨Y1, r1, r2⟩ := hB.2.2.2.2.2.2.2.2.2.1 Y (fct P (Int32.ofNat d) s w0 k) 99 hoY fY
      have hoY1 : moff I0 Y1 := hoY.to (fun b j z => r2 b j (by unfold MT at z; omega))
      obtain ⟨Y2, n1, n2⟩ := hB.2.2.2.2.2.2.2.2.2.2 Y1 (fct P (Int32.ofNat d) s w0 k) 20 hoY1 (fun q hq => (r2 113 q (by omega)).trans (fY q hq))
      have hoY2 : moff I0 Y2 := hoY1.to (fun b j z => n2 b j (by unfold MT at z; omega))
      have hnx : nxs P (Int32.ofNat d) s w0 r0 l0 k = cl (s k + (g + bes P (Int32.ofNat d) s w0 r0 l0 k) - cl (vnd P (fct P (Int32.ofNat d) s w0 k)) 20) 99 := by
        unfold nxs; rw [if_neg h0, hg]
      obtain ⟨I', f1, f2, f3⟩ := tail Y2 (nxs P (Int32.ofNat d) s w0 r0 l0 k) rfl hoY2 (fun b j y1 y2 y3 => (n2 b j y2).trans ((r2 b j y2).trans (wY b j y1 y3))) ((n2 101 _ (by omega)).trans ((r2 101 _ (by omega)).trans gY))
      refine ⟨I', start _ ?_, f2, f3⟩
      rw [if_neg (by decide), if_neg h0, if_pos xk, if_pos xr, ← hY, r1]
      simp only [Option.bind_some]
      have J37 : (if (Int32.ofNat k = vhid P) then (if ((rk P (Int32.ofNat d) s w0 r0 l0 k).2 ≤ (0)) then some (0 : Int32) else some (1)) else some (0)) = some (bes P (Int32.ofNat d) s w0 r0 l0 k) := by
        unfold bes
        by_cases a1 : Int32.ofNat k = vhid P
        · rw [if_pos a1, if_pos a1]
          by_cases a2 : (rk P (Int32.ofNat d) s w0 r0 l0 k).2 ≤ 0
          · rw [if_pos a2, if_neg (by rw [fa_lt]; rw [fa_le] at a2; exact Int.not_lt.mpr a2)]
          · rw [if_neg a2, if_pos (by rw [fa_lt]; rw [fa_le] at a2; exact Int.not_le.mp a2)]
        · rw [if_neg a1, if_neg a1]
      rw [J37]
      simp only [Option.bind_some]
      rw [n1]
      simp only [Option.bind_some, bnd]
      have J40 : ∀ x : Int32, (if 0 ≤ x then (if x ≤ 99 then some x else some 99) else some 0) = some (cl x 99) := by
        intro x
        unfold cl
        split
        · split <;> rfl
        · rfl
      rw [J40]
      simp only [Option.bind_some]
      rw [if_pos x2, Int32.add_assoc, ← hnx]
      rw [hrk] at f1
      have hl : (if Int32.ofNat k = vhid P then (if 0 < (rk P (Int32.ofNat d) s w0 r0 l0 k).2 then (rk P (Int32.ofNat d) s w0 r0 l0 k).2 - 1 else (rk P (Int32.ofNat d) s w0 r0 l0 k).2) else (rk P (Int32.ofNat d) s w0 r0 l0 k).2) = (rk P (Int32.ofNat d) s w0 r0 l0 k).2 - bes P (Int32.ofNat d) s w0 r0 l0 k := by
        unfold bes
        by_cases a1 : Int32.ofNat k = vhid P
        · rw [if_pos a1, if_pos a1]
          by_cases a2 : 0 < (rk P (Int32.ofNat d) s w0 r0 l0 k).2
          · rw [if_pos a2, if_pos a2]
          · rw [if_neg a2, if_neg a2, Int32.sub_zero]
        · rw [if_neg a1, if_neg a1, Int32.sub_zero]
      rw [hl] at f1
      exact f1
