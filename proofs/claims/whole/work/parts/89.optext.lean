/-! ===== the pure layer: the call text ===== -/
theorem c_copy {N : Nat} {ρ : Rh} {I : Nat → Nat → Int32} {J : Nat → Nat → Int64} {n : Nat} (sh : Sh ρ) (hn : n < 160) : f_J7_copyOf_59c91 N ρ I J 37 (Int32.ofNat n) = some (up (up I (32 + ρ.2.2) (fun _ => 0)) (32 + ρ.2.2) (cpy ((up I (32 + ρ.2.2) (fun _ => 0)) 37) ((up I (32 + ρ.2.2) (fun _ => 0)) (32 + ρ.2.2)) 0 0 n), up J (32 + ρ.2.2) (fun _ => 0), alρ ρ (1, n), 32 + ρ.2.2) := by
  have k1 := sh.k37
  have k2 := (sh.al (1, n)).k37
  have c1 : ρ.2.1 37 = (1, (ρ.2.1 37).2) := by rw [k1]
  have c2 : ¬ Int32.ofNat n = Int32.ofNat (ρ.2.1 37).2 := by
    rw [k1]
    intro z
    have := congrArg Int32.toInt z
    rw [p_nI (by omega)] at this
    have e : (Int32.ofNat ((1, 160) : Nat × Nat).2).toInt = 160 := rfl
    omega
  have c3 : ¬ Int32.ofNat n < 0 := by rw [fa_lt, p_nI (by omega)]; show ¬ _ < (0 : Int); omega
  have c5 : (alρ ρ (1, n)).2.1 37 = (1, ((alρ ρ (1, n)).2.1 37).2) := by rw [k2]
  have m : (if Int32.ofNat n < (Int32.ofNat ((alρ ρ (1, n)).2.1 37).2) then Int32.ofNat n else (Int32.ofNat ((alρ ρ (1, n)).2.1 37).2)) = Int32.ofNat n := by
    rw [k2]
    exact if_pos ((p_lt (by omega) (show (160 : Nat) < 2147483648 by omega)).mpr hn)
  have t0 : tn (0 : Int32) = 0 := rfl
  unfold f_J7_copyOf_59c91
  rw [if_pos c1, if_neg c2, if_pos c3, p_tnI (by omega), if_pos (by omega)]
  simp only [bnd]
  rw [if_pos c5, m, if_pos c3, p_tnI (by omega), t0, if_pos (by rw [k2]; show 0 + n ≤ 160; omega), if_pos (by omega)]
theorem c_lawinit {N : Nat} {ρ : Rh} {I : Nat → Nat → Int32} {J : Nat → Nat → Int64} {a b : Nat} {x y : Int32} (k : ρ.2.1 a = (0, 2)) (ha : 115 ≤ a) : f_X2_init N ρ I J a x b y = some (u2 (u2 I a 0 x) a 2 y, (u2 ρ.1 a 1 (some b), ρ.2)) := by
  unfold f_X2_init
  rw [if_pos k, if_pos ha]
theorem c_text_ok {N : Nat} {ρ : Rh} {I I' : Nat → Nat → Int32} {J : Nat → Nat → Int64} {t n h : Nat} (sh : Sh ρ) (ht : t < 6) (hn : n < 160) (e5 : I 32 5 = Int32.ofNat t) (hr : f_X8_readWhole N ρ I J = some (I', 1)) (f5 : I' 32 5 = Int32.ofNat t) (f3 : I' 35 3 = Int32.ofNat n) (f4 : I' 35 4 = Int32.ofNat h) : ∃ I1 J1 ρ1, f_X11_text N ρ I J = some (I1, J1, ρ1, Int32.ofNat t + 1 - 1) ∧ (∀ q k, q < 32 + ρ.2.2 → ¬ (q = 32 ∧ k = 5) → ¬ (q = 35 ∧ k = 1) → I1 q k = I' q k) ∧ I1 32 5 = Int32.ofNat t + 1 ∧ I1 35 1 = 0 ∧ I1 (32 + ρ.2.2) 0 = Int32.ofNat t ∧ I1 (32 + ρ.2.2) 2 = Int32.ofNat h ∧ (∀ k, k < n → I1 (32 + ρ.2.2 + 1) k = I' 37 k) ∧ (∀ k, J1 110 k = J 110 k) ∧ Sh ρ1 ∧ Grw ρ ρ1 ∧ ρ1.2.2 = ρ.2.2 + 2 ∧ (∀ q k, q < 32 + ρ.2.2 → ¬ (q = 34 ∧ k = t) → ρ1.1 q k = ρ.1 q k) ∧ ρ1.1 34 t = some (32 + ρ.2.2) ∧ ρ1.1 (32 + ρ.2.2) 1 = some (32 + ρ.2.2 + 1) ∧ ρ1.2.1 (32 + ρ.2.2) = (0, 2) ∧ ρ1.2.1 (32 + ρ.2.2 + 1) = (1, n) := by
  have g83 := sh.ge
  obtain ⟨a, ea⟩ : ∃ a, a = 32 + ρ.2.2 := ⟨_, rfl⟩
  obtain ⟨ρa, eρa⟩ : ∃ r, r = alρ ρ (0, 2) := ⟨_, rfl⟩
  have sha : Sh ρa := by rw [eρa]; exact sh.al _
  have na : 32 + ρa.2.2 = a + 1 := by rw [eρa, al_n]; omega
  obtain ⟨ρ3, eρ3⟩ : ∃ r, r = alρ ρa (1, n) := ⟨_, rfl⟩
  have sh3 : Sh ρ3 := by rw [eρ3]; exact sha.al _
  have n3 : ρ3.2.2 = ρ.2.2 + 2 := by rw [eρ3, al_n, eρa, al_n]
  have kk : ∀ q, ρ3.2.1 q = if q = a + 1 then (1, n) else if q = a then (0, 2) else ρ.2.1 q := by
    intro q
    rw [eρ3, al_k, na, eρa, al_k, ← ea]
  have rr : ∀ q j, ρ3.1 q j = if q = a + 1 then none else if q = a then none else ρ.1 q j := by
    intro q j
    rw [eρ3, al_r, na, eρa, al_r, ← ea]
  obtain ⟨Ia, eIa⟩ : ∃ i, i = up (u2 I' 35 1 0) a (fun _ => 0) := ⟨_, rfl⟩
  have Ialt : ∀ q k, q < a → Ia q k = u2 I' 35 1 0 q k := fun q k hq => by rw [eIa, up_ap, if_neg (by omega)]
  obtain ⟨I3, eI3⟩ : ∃ i, i = up (up Ia (a + 1) (fun _ => 0)) (a + 1) (cpy ((up Ia (a + 1) (fun _ => 0)) 37) ((up Ia (a + 1) (fun _ => 0)) (a + 1)) 0 0 n) := ⟨_, rfl⟩
  have I3lt : ∀ q k, q < a + 1 → I3 q k = Ia q k := fun q k hq => by rw [eI3, up_ap, if_neg (by omega), up_ap, if_neg (by omega)]
  have I3b : ∀ k, k < n → I3 (a + 1) k = I' 37 k := by
    intro k hk
    rw [eI3, up_ap, if_pos rfl]
    unfold cpy
    rw [if_pos (by omega), up_ap, if_neg (by omega), Ialt 37 _ (by omega), u2_fr (by omega), show 0 + (k - 0) = k by omega]
  have q3 : Ia 35 3 = Int32.ofNat n := by rw [Ialt 35 3 (by omega), u2_fr (by omega)]; exact f3
  have q5 : Ia 32 5 = Int32.ofNat t := by rw [Ialt 32 5 (by omega), u2_fr (by omega)]; exact f5
  have q4 : I3 35 4 = Int32.ofNat h := by rw [I3lt 35 4 (by omega), Ialt 35 4 (by omega), u2_fr (by omega)]; exact f4
  have n0 : ¬ Int32.ofNat t < 0 := by rw [fa_lt, p_nI (by omega)]; show ¬ _ < (0 : Int); omega
  have n6 : Int32.ofNat t < 6 := by rw [fa_lt, p_nI (by omega)]; show _ < (6 : Int); omega
  have k3a : ρ3.2.1 a = (0, 2) := by rw [kk, if_neg (by omega), if_pos rfl]
  obtain ⟨I4, eI4⟩ : ∃ i, i = u2 (u2 I3 a 0 (Int32.ofNat t)) a 2 (Int32.ofNat h) := ⟨_, rfl⟩
  have I4lt : ∀ q k, q < a → I4 q k = Ia q k := fun q k hq => by rw [eI4, u2_fr (by omega), u2_fr (by omega), I3lt q k (by omega)]
  have q45 : I4 32 5 = Int32.ofNat t := by rw [I4lt 32 5 (by omega)]; exact q5
  have E : f_X11_text N ρ I J = some (u2 I4 32 5 (Int32.ofNat t + 1), up (up J a (fun _ => 0)) (a + 1) (fun _ => 0), (u2 (u2 ρ3.1 a 1 (some (a + 1))) 34 t (some a), ρ3.2), Int32.ofNat t + 1 - 1) := by
    unfold f_X11_text
    rw [e5, if_neg n0, if_pos n6, hr]
    simp only [Option.bind_some]
    rw [if_neg (by decide)]
    simp only [bnd]
    rw [← ea, ← eIa, ← eρa, q3, c_copy sha hn]
    simp only [Option.bind_some]
    rw [na, ← eI3, ← eρ3, q5, q4, c_lawinit k3a (by omega)]
    simp only [Option.bind_some]
    rw [← eI4, q45, f5, if_pos (p_ixn (by omega) (by omega)), if_pos k3a, p_tnI (by omega)]
  refine ⟨_, _, _, E, fun q k z1 z2 z3 => ?_, u2_at, ?_, ?_, ?_, fun k hk => ?_, fun k => ?_, ?_, ⟨?_, fun q hq => ?_, g83⟩, n3, fun q k z1 z2 => ?_, ?_, ?_, ?_, ?_⟩
  · rw [u2_fr (by omega), I4lt q k (by omega), Ialt q k (by omega), u2_fr (by omega)]
  · rw [u2_fr (by omega), I4lt 35 1 (by omega), Ialt 35 1 (by omega), u2_at]
  · rw [← ea, u2_fr (by omega), eI4, u2_fr (by omega), u2_at]
  · rw [← ea, u2_fr (by omega), eI4, u2_at]
  · rw [← ea, u2_fr (by omega), eI4, u2_fr (by omega), u2_fr (by omega)]; exact I3b k hk
  · rw [up_ap, if_neg (by omega), up_ap, if_neg (by omega)]
  · have s1 : Sh (u2 ρ3.1 a 1 (some (a + 1)), ρ3.2) := sh3.putH (by omega) 1 (some (a + 1))
    exact Sh.put s1 34 t (some a) (fun q hq z => shR_34 q hq z.1) (by decide)
  · show ρ.2.2 ≤ ρ3.2.2; omega
  · show ρ3.2.1 q = ρ.2.1 q
    rw [kk, if_neg (by omega), if_neg (by omega)]
  · show u2 (u2 ρ3.1 a 1 (some (a + 1))) 34 t (some a) q k = ρ.1 q k
    rw [u2_fr (by omega), u2_fr (by omega), rr, if_neg (by omega), if_neg (by omega)]
  · show u2 (u2 ρ3.1 a 1 (some (a + 1))) 34 t (some a) 34 t = some (32 + ρ.2.2)
    rw [u2_at, ea]
  · show u2 (u2 ρ3.1 a 1 (some (a + 1))) 34 t (some a) (32 + ρ.2.2) 1 = some (32 + ρ.2.2 + 1)
    rw [← ea, u2_fr (by omega), u2_at]
  · show ρ3.2.1 (32 + ρ.2.2) = (0, 2)
    rw [← ea]; exact k3a
  · show ρ3.2.1 (32 + ρ.2.2 + 1) = (1, n)
    rw [← ea, kk, if_pos rfl]
theorem m_text {N : Nat} (hN : 1000 ≤ N) {ρ : Rh} {J : Nat → Nat → Int64} (hw : vWords J) {c : Nat → Nat} {sz t : Nat} (hsz : sz ≤ 160) (ht : t < 6) {X : Nat → Nat → Int32} (h17 : X 89 17 = Int32.ofNat t) (h14 : X 89 14 = Int32.ofNat sz) (hB : tBy X) (hc : tc X = c) : ∃ X', f_X12_text N ρ X J = some ((if (rwP (tT c sz)).1 = true then u2 (u2 (u2 X' 99 (4 * t + 2) (X' 89 45)) 89 14 0) 89 17 (Int32.ofNat t + 1) else u2 (u2 X' 99 (4 * t + 2) (X' 89 45)) 89 14 0), (if (rwP (tT c sz)).1 = true then Int32.ofNat t + 1 - 1 else -100 - X' 89 38)) ∧ mT t X X' ∧ X' 89 38 = Int32.ofNat (lb c sz (cu c sz (rwP (tT c sz)).2)) ∧ ((rwP (tT c sz)).1 = true → wr t 0 X' ((rwA (tT c sz)).2.2 ++ (rwB (tT c sz)).2.2) ∧ X' 89 45 = Int32.ofNat ((rwA (tT c sz)).2.2.length + (rwB (tT c sz)).2.2.length) ∧ X' 99 (4 * t) = Int32.ofNat 0 ∧ X' 99 (4 * t + 1) = Int32.ofNat (rwA (tT c sz)).2.2.length) := by
  have hR0 : mPo c sz 0 (u2 (u2 X 89 37 0) 89 45 0) := ⟨(u2_fr (by omega)).trans ((u2_fr (by omega)).trans h14), (u2_fr (by omega)).trans u2_at, fun k hk => by
      rw [u2_fr (by omega), u2_fr (by omega), u2_fr (by omega), u2_fr (by omega)]; exact hB k hk, by
      rw [← hc]; funext k; unfold tc; rw [u2_fr (by omega), u2_fr (by omega)]⟩
  obtain ⟨X', a1, a2, a3, a4⟩ := m_textB hN (ρ := ρ) (f := N - 3) hw hsz ht (tT_end (c := c) hsz) hR0 ((u2_fr (by omega)).trans ((u2_fr (by omega)).trans h17)) u2_at
  have eN : N - 3 + 3 = N := by omega
  rw [eN] at a1
  have T2 : mT t X X' := fun b j z1 z2 z3 z4 => (a2 b j z1 z2 z3 z4).trans ((u2_fr (by omega)).trans (u2_fr (by omega)))
  refine ⟨X', ?_, T2, a3, a4⟩
  have n6 : ¬ X 89 17 = 6 := by
    rw [h17]
    intro z
    have := congrArg Int32.toInt z
    rw [p_nI (by omega)] at this
    have e : (6 : Int32).toInt = 6 := rfl
    omega
  have x17 : X' 89 17 = Int32.ofNat t := (T2 89 17 (by omega) (by omega) (by omega) (by omega)).trans h17
  have idx : (4 : Int32) * Int32.ofNat t + (2 : Int32) = Int32.ofNat (4 * t + 2) := p_lin4 (k := 2) (by omega)
  have e2 : f_X12_text N ρ X J = (Option.bind (Option.bind (f_X12_text_26 N J ρ N (u2 (u2 X 89 37 0) 89 45 0) 1 0) (mEnd N ρ J)) fun j12 => (if ¬ ((((4 : Int32) * (j12.2 89 17)) + (2 : Int32)) < 0 ∨ 24 ≤ tn (((4 : Int32) * (j12.2 89 17)) + (2 : Int32))) then (if (j12.1 = (0 : Int32)) then some ((u2 (u2 j12.2 99 (tn (((4 : Int32) * (j12.2 89 17)) + (2 : Int32))) (j12.2 89 45)) 89 14 (0 : Int32)), ((-100 : Int32) - (j12.2 89 38))) else (bnd ((j12.2 89 17) + (1 : Int32)) fun x14 => some ((u2 (u2 (u2 j12.2 99 (tn (((4 : Int32) * (j12.2 89 17)) + (2 : Int32))) (j12.2 89 45)) 89 14 (0 : Int32)) 89 17 x14), (x14 - (1 : Int32))))) else none)) := by
    unfold f_X12_text
    rw [if_neg n6, Option.bind_assoc]
    rfl
  rw [e2, a1]
  simp only [Option.bind_some, bnd]
  rw [x17, idx, if_pos (p_ixn (by omega) (by omega)), p_tnI (by omega)]
  by_cases q : (rwP (tT c sz)).1 = true
  · simp only [if_pos q]
    rw [if_neg (by decide)]
  · simp only [if_neg q]
    rw [if_pos trivial]
theorem op_text {N : Nat} (hN : 1000 ≤ N) {ρ : Rh} {I : Nat → Nat → Int32} {J : Nat → Nat → Int64} (h : Inv ρ I J) : ∃ I1 J1 ρ1 v I2, f_X11_text N ρ I J = some (I1, J1, ρ1, v) ∧ f_X12_text N ρ1 I1 J1 = some (I2, v) ∧ Inv ρ1 I2 J1 := by
  obtain ⟨sh, hm, htd, hd, hp, hs, hr, hl, hf, hi, hw⟩ := id h
  obtain ⟨l1, l2, l3⟩ := id hl
  obtain ⟨p1, p2, p3⟩ := id hp
  unfold bw at l2 p2
  have g83 := sh.ge
  obtain ⟨t, ht⟩ : ∃ t, t = tn (I 89 17) := ⟨_, rfl⟩
  have e17 : I 89 17 = Int32.ofNat t := by rw [ht]; exact (p_tnb (by omega)).symm
  have e17i : (I 89 17).toInt = t := by rw [ht]; exact (p_tnc _ (by omega)).symm
  obtain ⟨sz, hz⟩ : ∃ sz, sz = tn (I 89 14) := ⟨_, rfl⟩
  have e14 : I 89 14 = Int32.ofNat sz := by rw [hz]; exact (p_tnb (by omega)).symm
  have e14i : (I 89 14).toInt = sz := by rw [hz]; exact (p_tnc _ (by omega)).symm
  by_cases t6 : t = 6
  · have s6 : I 89 17 = 6 := by rw [e17, t6]; rfl
    refine ⟨I, J, ρ, -4, I, ?_, ?_, h⟩
    · unfold f_X11_text
      rw [l1, s6, if_neg (by decide), if_neg (by decide)]
    · unfold f_X12_text
      rw [if_pos s6]
  have hsz : sz ≤ 160 := by omega
  have ht6 : t < 6 := by omega
  have hB : tBy I := p3
  obtain ⟨c, hc⟩ : ∃ c, c = tc I := ⟨_, rfl⟩
  obtain ⟨I', c1, cF, c6, cG⟩ := c_whole (N := N) (by omega) (ρ := ρ) (J := J) hB hsz (p1.trans e14)
  rw [← hc] at c1 c6 cG
  have i0 : I 32 5 = Int32.ofNat t := l1.trans e17
  have n0 : ¬ Int32.ofNat t < 0 := by rw [fa_lt, p_nI (by omega)]; show ¬ _ < (0 : Int); omega
  have n6 : Int32.ofNat t < 6 := by rw [fa_lt, p_nI (by omega)]; show _ < (6 : Int); omega
  have i5 : I' 32 5 = Int32.ofNat t := (cF 32 5 (by omega) (by omega)).trans i0
  by_cases ok : (rwP (tT c sz)).1 = true
  · rw [if_pos ok] at c1
    obtain ⟨g1, g2, g3, g4⟩ := cG ok
    obtain ⟨A, hA⟩ : ∃ A, A = (rwA (tT c sz)).2.2 := ⟨_, rfl⟩
    obtain ⟨B, hBB⟩ : ∃ B, B = (rwB (tT c sz)).2.2 := ⟨_, rfl⟩
    rw [← hA, ← hBB] at g1 g2 g4
    rw [← hA] at g3
    obtain ⟨I1, J1, ρ1, d0, d1, d2, d3, d4, d5, d6, d7, d8, d9, d10, d11, d12, d13, d14, d15⟩ := c_text_ok (N := N) sh ht6 (show A.length + B.length < 160 by omega) i0 c1 i5 g2 g3
    have G1 : ∀ q k, q < 32 + ρ.2.2 → ¬ (q = 32 ∧ k = 5) → ¬ q = 35 → ¬ q = 37 → I1 q k = I q k := fun q k z1 z2 z3 z4 => (d1 q k z1 z2 (by omega)).trans (cF q k (by omega) z4)
    have hw1 : vWords J1 := fun k hk => (d7 k).trans (hw k hk)
    have m17 : I1 89 17 = Int32.ofNat t := (G1 89 17 (by omega) (by omega) (by omega) (by omega)).trans e17
    have m14 : I1 89 14 = Int32.ofNat sz := (G1 89 14 (by omega) (by omega) (by omega) (by omega)).trans e14
    have mB : tBy I1 := fun k hk => by
      rw [G1 36 k (by omega) (by omega) (by omega) (by omega), G1 97 k (by omega) (by omega) (by omega) (by omega)]; exact hB k hk
    have mc : tc I1 = c := by rw [hc]; funext k; unfold tc; rw [G1 97 k (by omega) (by omega) (by omega) (by omega)]
    obtain ⟨X', f1, f2, f3, f4⟩ := m_text hN (ρ := ρ1) hw1 hsz ht6 m17 m14 mB mc
    rw [if_pos ok, if_pos ok] at f1
    obtain ⟨f5, f6, f7, f8⟩ := f4 ok
    rw [← hA, ← hBB] at f5 f6
    rw [← hA] at f8
    have et1 : (Int32.ofNat t + 1).toInt = t + 1 := by rw [p_succ (by omega), p_nI (by omega)]; omega
    have FF : ∀ q k, ¬ ((q = 89 ∧ (k = 14 ∨ k = 17 ∨ (37 ≤ k ∧ k ≤ 45))) ∨ q = 111 ∨ (q = 98 ∧ 200 * t ≤ k ∧ k < 200 * t + 200) ∨ (q = 99 ∧ 4 * t ≤ k ∧ k ≤ 4 * t + 2)) → (u2 (u2 (u2 X' 99 (4 * t + 2) (X' 89 45)) 89 14 0) 89 17 (Int32.ofNat t + 1)) q k = I1 q k := by
      intro q k z
      rw [u2_fr (by omega), u2_fr (by omega), u2_fr (by omega)]
      exact f2 q k (by omega) (by omega) (by omega) (by omega)
    obtain ⟨Y, hY⟩ : ∃ Y, Y = u2 (u2 (u2 X' 99 (4 * t + 2) (X' 89 45)) 89 14 0) 89 17 (Int32.ofNat t + 1) := ⟨_, rfl⟩
    have y17 : Y 89 17 = Int32.ofNat t + 1 := by rw [hY]; exact u2_at
    have y14 : Y 89 14 = 0 := by rw [hY, u2_fr (by omega)]; exact u2_at
    have y98 : ∀ k, Y 98 k = X' 98 k := fun k => by rw [hY, u2_fr (by omega), u2_fr (by omega), u2_fr (by omega)]
    have y990 : Y 99 (4 * t) = 0 := by rw [hY, u2_fr (by omega), u2_fr (by omega), u2_fr (by omega), f7]; rfl
    have y991 : Y 99 (4 * t + 1) = Int32.ofNat A.length := by rw [hY, u2_fr (by omega), u2_fr (by omega), u2_fr (by omega), f8]
    have y992 : Y 99 (4 * t + 2) = Int32.ofNat (A.length + B.length) := by rw [hY, u2_fr (by omega), u2_fr (by omega), u2_at, f6]
    rw [← hY] at f1 FF
    refine ⟨I1, J1, ρ1, _, Y, d0, f1, ?_⟩
    have hT9 : ∀ i, (tT c sz i).toInt ≤ 9999 := fun i => lk_top
    have okA : (rwA (tT c sz)).1 = true ∧ (rwB (tT c sz)).1 = true := by
      have hP : rwP (tT c sz) = (if tT c sz 0 = -16 then (if (rwA (tT c sz)).1 = true then (if tT c sz (rwA (tT c sz)).2.1 = -20 then (if tT c sz ((rwA (tT c sz)).2.1 + 1) = -17 then (if (rwB (tT c sz)).1 = true then (if tT c sz (rwB (tT c sz)).2.1 = -20 then (if tT c sz ((rwB (tT c sz)).2.1 + 1) = -21 then (true, (rwB (tT c sz)).2.1 + 1) else (false, (rwB (tT c sz)).2.1 + 1)) else (false, (rwB (tT c sz)).2.1)) else (false, (rwB (tT c sz)).2.1)) else (false, (rwA (tT c sz)).2.1 + 1)) else (false, (rwA (tT c sz)).2.1)) else (false, (rwA (tT c sz)).2.1)) else (false, 0)) := rfl
      by_cases b1 : tT c sz 0 = -16
      · rw [if_pos b1] at hP
        by_cases b2 : (rwA (tT c sz)).1 = true
        · rw [if_pos b2] at hP
          by_cases b3 : tT c sz (rwA (tT c sz)).2.1 = -20
          · rw [if_pos b3] at hP
            by_cases b4 : tT c sz ((rwA (tT c sz)).2.1 + 1) = -17
            · rw [if_pos b4] at hP
              by_cases b5 : (rwB (tT c sz)).1 = true
              · exact ⟨b2, b5⟩
              · rw [if_neg b5] at hP; rw [hP] at ok; exact absurd ok Bool.false_ne_true
            · rw [if_neg b4] at hP; rw [hP] at ok; exact absurd ok Bool.false_ne_true
          · rw [if_neg b3] at hP; rw [hP] at ok; exact absurd ok Bool.false_ne_true
        · rw [if_neg b2] at hP; rw [hP] at ok; exact absurd ok Bool.false_ne_true
      · rw [if_neg b1] at hP; rw [hP] at ok; exact absurd ok Bool.false_ne_true
    have wA : ∀ d, wfc A d (d + 1) := by rw [hA]; exact (wf_lvp hT9 60).2 _ _ _ okA.1
    have wB : ∀ d, wfc B d (d + 1) := by rw [hBB]; exact (wf_lvp hT9 60).2 _ _ _ okA.2
    have lA : 0 < A.length := by
      cases hh : A with
      | nil => rw [hh] at wA; exact absurd (wA 0) (by show ¬ (0 : Nat) = 0 + 1; omega)
      | cons x xs => exact Nat.succ_pos _
    have lB : 0 < B.length := by
      cases hh : B with
      | nil => rw [hh] at wB; exact absurd (wB 0) (by show ¬ (0 : Nat) = 0 + 1; omega)
      | cons x xs => exact Nat.succ_pos _
    have cells : ∀ k, k < A.length + B.length → Y (32 + ρ.2.2 + 1) k = (A ++ B).getD k 0 := by
      intro k hk
      rw [FF _ _ (by omega), d6 k hk]
      exact g4 k hk
    have top : ∀ k, k < (A ++ B).length → bw ((A ++ B).getD k 0) (-15) 9999 := wf_top (A ++ B) 0 2 (wfc_app A B 0 1 2 (wA 0) (wB 1))
    have segA : seg (Y (32 + ρ.2.2 + 1)) 0 A.length := by
      obtain ⟨D, D1, D2, D3⟩ := wf_seg (f := Y (32 + ρ.2.2 + 1)) A 0 0 1 (wA 0) (fun k hk => by
        rw [Nat.zero_add, cells k (by omega), getD_app, if_pos hk])
      rw [Nat.zero_add] at D2 D3
      exact ⟨D, D1, D2, lA, D3⟩
    have segB : seg (Y (32 + ρ.2.2 + 1)) A.length (A.length + B.length) := by
      obtain ⟨D, D1, D2, D3⟩ := wf_seg (f := Y (32 + ρ.2.2 + 1)) B A.length 0 1 (wB 0) (fun k hk => by
        rw [cells _ (by omega), getD_app, if_neg (by omega), Nat.add_sub_cancel_left])
      exact ⟨D, D1, D2, by omega, D3⟩
    refine tx_inv h e17i d8 d9 (fun b k z1 z2 => d11 b k z1 z2) (fun b k z1 z2 => ?_) ?_ y14 d7 ?_ (.inr ⟨ht6, by rw [y17]; exact et1, 32 + ρ.2.2, d12, 32 + ρ.2.2 + 1, A.length, A.length + B.length, d14, d13, ?_, ?_, y990, y991, y992, d15, by omega, by omega, fun k hk => ?_, segA, segB, .inr ⟨by omega, rfl, by omega⟩⟩)
    · rw [FF b k (by omega)]
      exact G1 b k z1 (by omega) (by omega) (by omega)
    · rw [FF 35 1 (by omega)]; exact d3
    · rw [FF 32 5 (by omega), y17]; exact d2
    · rw [FF _ 0 (by omega)]; exact d4
    · rw [FF _ 2 (by omega)]; exact d5
    · rw [cells k hk, y98]
      have := f5 k (by rw [List.length_append]; exact hk)
      rw [Nat.add_zero] at this
      rw [this]
      exact cm_mcd (top k (by rw [List.length_append]; exact hk))
  · rw [if_neg ok] at c1
    have G1 : ∀ q k, ¬ q = 35 → ¬ q = 37 → (u2 I' 35 1 0) q k = I q k := fun q k z3 z4 => (u2_fr (by omega)).trans (cF q k (by omega) z4)
    have mB : tBy (u2 I' 35 1 0) := fun k hk => by
      rw [G1 36 k (by omega) (by omega), G1 97 k (by omega) (by omega)]; exact hB k hk
    have mc : tc (u2 I' 35 1 0) = c := by rw [hc]; funext k; unfold tc; rw [G1 97 k (by omega) (by omega)]
    obtain ⟨X', f1, f2, f3, f4⟩ := m_text hN (ρ := ρ) hw hsz ht6 ((G1 89 17 (by omega) (by omega)).trans e17) ((G1 89 14 (by omega) (by omega)).trans e14) mB mc
    rw [if_neg ok, if_neg ok] at f1
    have FF : ∀ q k, ¬ ((q = 89 ∧ (k = 14 ∨ (37 ≤ k ∧ k ≤ 45))) ∨ q = 111 ∨ (q = 98 ∧ 200 * t ≤ k ∧ k < 200 * t + 200) ∨ (q = 99 ∧ 4 * t ≤ k ∧ k ≤ 4 * t + 2)) → (u2 (u2 X' 99 (4 * t + 2) (X' 89 45)) 89 14 0) q k = (u2 I' 35 1 0) q k := by
      intro q k z
      rw [u2_fr (by omega), u2_fr (by omega)]
      exact f2 q k (by omega) (by omega) (by omega) (by omega)
    obtain ⟨Y, hY⟩ : ∃ Y, Y = u2 (u2 X' 99 (4 * t + 2) (X' 89 45)) 89 14 0 := ⟨_, rfl⟩
    have y14 : Y 89 14 = 0 := by rw [hY]; exact u2_at
    rw [← hY] at f1 FF
    refine ⟨u2 I' 35 1 0, J, ρ, -100 - X' 89 38, Y, ?_, f1, ?_⟩
    · unfold f_X11_text
      rw [i0, if_neg n0, if_pos n6, c1]
      simp only [Option.bind_some]
      rw [if_pos trivial, c6, f3]
    · refine tx_inv h e17i sh (Grw.same sh ρ.1) (fun b k z1 z2 => rfl) (fun b k z1 z2 => ?_) ?_ y14 (fun k => rfl) ?_ (.inl ⟨?_, rfl⟩)
      · rw [FF b k (by omega)]
        exact G1 b k (by omega) (by omega)
      · rw [FF 35 1 (by omega)]; exact u2_at
      · rw [FF 32 5 (by omega), FF 89 17 (by omega), G1 32 5 (by omega) (by omega), G1 89 17 (by omega) (by omega)]; exact l1
      · rw [FF 89 17 (by omega), G1 89 17 (by omega) (by omega)]
