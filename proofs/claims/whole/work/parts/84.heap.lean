/-! ===== the pure layer: the model's stack and codes in the heap ===== -/
def hv (s : Int32) : Prop := s = -18 ∨ s = -7 ∨ s = -8 ∨ s = -9 ∨ s = -10 ∨ s = -11 ∨ s = -12 ∨ s = -13 ∨ s = -14 ∨ s = -15
def cmw (s : Int32) : Nat := if s = -18 then 1 else if s = -8 then 1 else if s = -7 then 1 else 0
def cm : List Int32 → Nat
  | [] => 0
  | h :: H => cmw h + cm H
def stk (X : Nat → Nat → Int32) : List Int32 → Prop
  | [] => True
  | h :: H => hv h ∧ X 111 H.length = mcd h ∧ stk X H
def mU (X : Nat → Nat → Int32) (t : Nat) (H : List Int32) (o n : Nat) : Prop := X 89 17 = Int32.ofNat t ∧ X 89 43 = Int32.ofNat H.length ∧ X 89 44 = Int32.ofNat o ∧ X 89 45 = Int32.ofNat n ∧ stk X H ∧ cm H ≤ o ∧ o ≤ 5
def mF (k t n : Nat) (X X' : Nat → Nat → Int32) : Prop := ∀ b j, ¬ (b = 89 ∧ k ≤ j ∧ j ≤ 45) → ¬ b = 111 → ¬ (b = 98 ∧ 200 * t + n ≤ j ∧ j < 200 * t + 200) → X' b j = X b j
def wr (t n : Nat) (X : Nat → Nat → Int32) (cs : List Int32) : Prop := ∀ k, k < cs.length → X 98 (200 * t + n + k) = mcd (cs.getD k 0)
def mQ (t n : Nat) (X X' : Nat → Nat → Int32) (cs H : List Int32) (o : Nat) : Prop := mU X' t H o (n + cs.length) ∧ mF 43 t n X X' ∧ wr t n X' cs
theorem stk_fr {X X' : Nat → Nat → Int32} : ∀ {H : List Int32}, (∀ j, j < H.length → X' 111 j = X 111 j) → stk X H → stk X' H
  | [], _, _ => trivial
  | h :: H, hF, hs => by
    obtain ⟨h1, h2, h3⟩ := hs
    exact ⟨h1, (hF _ (by show H.length < H.length + 1; omega)).trans h2, stk_fr (fun j hj => hF j (by show j < H.length + 1; omega)) h3⟩
theorem wr_app {t n : Nat} {X : Nat → Nat → Int32} {a b : List Int32} (h1 : wr t n X a) (h2 : wr t (n + a.length) X b) : wr t n X (a ++ b) := by
  intro k hk
  rw [List.length_append] at hk
  rw [getD_app]
  by_cases q : k < a.length
  · rw [if_pos q]; exact h1 k q
  · rw [if_neg q]
    have := h2 (k - a.length) (by omega)
    rw [show 200 * t + (n + a.length) + (k - a.length) = 200 * t + n + k by omega] at this
    exact this
theorem wr_fr {t n m k : Nat} {X X' : Nat → Nat → Int32} {cs : List Int32} (h : wr t n X cs) (hF : mF k t m X X') (hm : n + cs.length ≤ m) : wr t n X' cs := fun q hq => (hF 98 _ (by omega) (by omega) (by omega)).trans (h q hq)
theorem mF_tr {k t n m : Nat} {X X1 X2 : Nat → Nat → Int32} (h : mF k t n X X1) (h2 : mF k t m X1 X2) (hm : n ≤ m) : mF k t n X X2 := fun b j z1 z2 z3 => (h2 b j z1 z2 (by omega)).trans (h b j z1 z2 z3)
theorem mF_le {k q t n : Nat} {X X1 : Nat → Nat → Int32} (h : mF k t n X X1) (hq : q ≤ k) : mF q t n X X1 := fun b j z1 z2 z3 => h b j (by omega) z2 z3
theorem mQ.tr {t n : Nat} {X X1 X2 : Nat → Nat → Int32} {a b H H' : List Int32} {o o' : Nat} (h : mQ t n X X1 a H o) (h2 : mQ t (n + a.length) X1 X2 b H' o') : mQ t n X X2 (a ++ b) H' o' := by
  obtain ⟨h1, h3, h4⟩ := h
  obtain ⟨k1, k3, k4⟩ := h2
  refine ⟨?_, mF_tr h3 k3 (by omega), wr_app (wr_fr h4 k3 (by omega)) k4⟩
  rw [List.length_append, ← Nat.add_assoc]
  exact k1
theorem m_rank {N : Nat} {ρ : Rh} {I : Nat → Nat → Int32} {J : Nat → Nat → Int64} {s : Int32} (h : hv s) : f_X12_rank N ρ I J (mcd s) = some (Int32.ofNat (rkc s)) := by
  rcases h with z | z | z | z | z | z | z | z | z | z <;> subst z <;> rfl
theorem hv_op {s : Int32} (h : hv s) : ((if mcd s = 13 then some (1 : Int32) else (if mcd s = 19 then some 1 else some 0)) = some (Int32.ofNat (opw s))) ∧ opw s ≤ cmw s ∧ opw s ≤ 1 := by
  rcases h with z | z | z | z | z | z | z | z | z | z <;> subst z <;> exact ⟨rfl, by decide, by decide⟩
theorem m_puts {N : Nat} {ρ : Rh} {X : Nat → Nat → Int32} {J : Nat → Nat → Int64} {t n o : Nat} {H : List Int32} (ht : t < 6) (hn : n < 200) (h : mU X t H o n) (s : Int32) : ∃ X', f_X12_puts N ρ X J (mcd s) = some X' ∧ mQ t n X X' [s] H o := by
  obtain ⟨h1, h2, h3, h4, h5, h6, h7⟩ := h
  refine ⟨u2 (u2 X 98 (200 * t + n) (mcd s)) 89 45 (Int32.ofNat (n + 1)), ?_, ⟨(u2_fr (by omega)).trans ((u2_fr (by omega)).trans h1), (u2_fr (by omega)).trans ((u2_fr (by omega)).trans h2), (u2_fr (by omega)).trans ((u2_fr (by omega)).trans h3), u2_at, stk_fr (fun j _ => (u2_fr (by omega)).trans (u2_fr (by omega))) h5, h6, h7⟩, fun b j z1 z2 z3 => (u2_fr (by omega)).trans (u2_fr (by omega)), fun k hk => ?_⟩
  · unfold f_X12_puts
    rw [h1, h4, p_lin200 (by omega), if_pos (p_ixn (by omega) (by omega)), p_tnI (by omega), p_succ (by omega)]
  · have : k = 0 := by have : k < 1 := hk; omega
    subst this
    rw [u2_fr (by omega), Nat.add_zero, u2_at]
    rfl
theorem m_hold {N : Nat} {ρ : Rh} {X : Nat → Nat → Int32} {J : Nat → Nat → Int64} {t n o : Nat} {H : List Int32} (hn : H.length < 200) (h : mU X t H o n) {s : Int32} (hs : hv s) (hc : cmw s + cm H ≤ o) : ∃ X', f_X12_holds N ρ X J (mcd s) = some X' ∧ mQ t n X X' [] (s :: H) o := by
  obtain ⟨h1, h2, h3, h4, h5, h6, h7⟩ := h
  refine ⟨u2 (u2 X 111 H.length (mcd s)) 89 43 (Int32.ofNat (H.length + 1)), ?_, ⟨(u2_fr (by omega)).trans ((u2_fr (by omega)).trans h1), u2_at, (u2_fr (by omega)).trans ((u2_fr (by omega)).trans h3), (u2_fr (by omega)).trans ((u2_fr (by omega)).trans h4), ⟨hs, (u2_fr (by omega)).trans u2_at, stk_fr (fun j hj => (u2_fr (by omega)).trans (u2_fr (by omega))) h5⟩, hc, h7⟩, fun b j z1 z2 z3 => (u2_fr (by omega)).trans (u2_fr (by omega)), fun k hk => absurd hk (Nat.not_lt_zero k)⟩
  unfold f_X12_holds
  rw [h2, if_pos (p_ixn (by omega) (by omega)), p_tnI (by omega), p_succ (by omega)]
theorem m_opens {N : Nat} {ρ : Rh} {X : Nat → Nat → Int32} {J : Nat → Nat → Int64} {t n o : Nat} {H : List Int32} (hn : H.length < 200) (h : mU X t H o n) {s : Int32} (hs : hv s) (hc : cmw s ≤ 1) : (o = 5 → f_X12_opensOne N ρ X J (mcd s) = some (X, 0)) ∧ (¬ o = 5 → ∃ X', f_X12_opensOne N ρ X J (mcd s) = some (X', 1) ∧ mQ t n X X' [] (s :: H) (o + 1)) := by
  obtain ⟨h1, h2, h3, h4, h5, h6, h7⟩ := id h
  constructor
  · intro z
    unfold f_X12_opensOne
    rw [if_pos (by rw [h3, z]; rfl)]
  · intro z
    have hU : mU (u2 X 89 44 (Int32.ofNat (o + 1))) t H (o + 1) n := ⟨(u2_fr (by omega)).trans h1, (u2_fr (by omega)).trans h2, u2_at, (u2_fr (by omega)).trans h4, stk_fr (fun j hj => u2_fr (by omega)) h5, by omega, by omega⟩
    obtain ⟨X', e1, e2⟩ := m_hold (N := N) (ρ := ρ) (J := J) hn hU hs (by omega)
    refine ⟨X', ?_, e2.1, fun b j z1 z2 z3 => (e2.2.1 b j z1 z2 z3).trans (u2_fr (by omega)), e2.2.2⟩
    unfold f_X12_opensOne
    rw [if_neg (fun y => z (by
      rw [h3] at y
      have := congrArg Int32.toInt y
      rw [p_nI (by omega)] at this
      have e5 : (5 : Int32).toInt = 5 := rfl
      omega)), h3, p_succ (by omega), e1]
    rfl
theorem m_unw {N : Nat} {ρ : Rh} {J : Nat → Nat → Int64} {r t : Nat} (hr : r ≤ 9) (ht : t < 6) : ∀ (H : List Int32) (o n fuel : Nat) (X : Nat → Nat → Int32), H.length < fuel → H.length + n < 200 → mU X t H o n → ∃ X', f_X12_unwinds_0 N J ρ (Int32.ofNat r) fuel X = some X' ∧ mQ t n X X' (uw r H o).2.2 (uw r H o).1 (uw r H o).2.1 ∧ (uw r H o).1.length + (uw r H o).2.2.length = H.length
  | [], o, n, fuel + 1, X, _, hb, h => by
    refine ⟨X, ?_, ⟨h, fun _ _ _ _ _ => rfl, fun k hk => absurd hk (Nat.not_lt_zero k)⟩, rfl⟩
    rw [f_X12_unwinds_0.eq_2, if_pos (by rw [h.2.1]; decide)]
  | s :: H, o, n, fuel + 1, X, hf, hb, h => by
    obtain ⟨h1, h2, h3, h4, ⟨h5, h5b, h5c⟩, h6, h7⟩ := id h
    have hb' : H.length + 1 + n < 200 := hb
    have hf' : H.length + 1 < fuel + 1 := hf
    have h2' : X 89 43 = Int32.ofNat (H.length + 1) := h2
    have hl : X 89 43 - 1 = Int32.ofNat H.length := by rw [h2', p_pred (by omega) (by omega)]; rfl
    have h0 : ¬ X 89 43 ≤ 0 := by rw [h2', fa_le, p_nI (by omega)]; show ¬ _ ≤ (0 : Int); omega
    have ix : ¬ (Int32.ofNat H.length < 0 ∨ 200 ≤ tn (Int32.ofNat H.length)) := p_ixn (by omega) (by omega)
    have ix2 : ¬ (Int32.ofNat H.length < 0 ∨ 200 ≤ H.length) := by have := ix; rw [p_tnI (by omega)] at this; exact this
    obtain ⟨o1, o2, o3⟩ := hv_op h5
    have h6' : cmw s + cm H ≤ o := h6
    have hk7 : rkc s ≤ 7 := by rcases h5 with z | z | z | z | z | z | z | z | z | z <;> subst z <;> decide
    by_cases q : rkc s < r
    · have e : uw r (s :: H) o = (s :: H, o, []) := uw_lo (show lo r (s :: H) from q) o
      rw [e]
      refine ⟨X, ?_, ⟨h, fun _ _ _ _ _ => rfl, fun k hk => absurd hk (Nat.not_lt_zero k)⟩, rfl⟩
      rw [f_X12_unwinds_0.eq_2, if_neg h0, hl, if_pos ix, p_tnI (by omega), h5b, m_rank h5]
      simp only [Option.bind_some]
      rw [if_pos ((p_lt (by omega) (by omega)).mpr q)]
    · have e : uw r (s :: H) o = ((uw r H (o - opw s)).1, (uw r H (o - opw s)).2.1, s :: (uw r H (o - opw s)).2.2) := by
        show (if rkc s < r then _ else ((uw r H (o - opw s)).1, (uw r H (o - opw s)).2.1, s :: (uw r H (o - opw s)).2.2)) = _
        rw [if_neg q]
      have e44 : Int32.ofNat o - Int32.ofNat (opw s) = Int32.ofNat (o - opw s) := by
        refine p_eq ?_
        rw [p_sub (by rw [p_nI (by omega), p_nI (by omega)]; omega) (by rw [p_nI (by omega), p_nI (by omega)]; omega), p_nI (by omega), p_nI (by omega), p_nI (by omega)]
        omega
      have hU : mU (u2 (u2 X 89 43 (Int32.ofNat H.length)) 89 44 (Int32.ofNat (o - opw s))) t H (o - opw s) n := ⟨(u2_fr (by omega)).trans ((u2_fr (by omega)).trans h1), (u2_fr (by omega)).trans u2_at, u2_at, (u2_fr (by omega)).trans ((u2_fr (by omega)).trans h4), stk_fr (fun j hj => (u2_fr (by omega)).trans (u2_fr (by omega))) h5c, by omega, by omega⟩
      obtain ⟨X1, a1, a2⟩ := m_puts (N := N) (ρ := ρ) (J := J) ht (by omega) hU s
      obtain ⟨X2, b1, b2, b3⟩ := m_unw (N := N) (ρ := ρ) (J := J) hr ht H (o - opw s) (n + 1) fuel X1 (by omega) (by omega) a2.1
      rw [e]
      refine ⟨X2, ?_, ?_, ?_⟩
      · rw [f_X12_unwinds_0.eq_2, if_neg h0, hl, if_pos ix, p_tnI (by omega), h5b, m_rank h5]
        simp only [Option.bind_some]
        rw [if_neg (fun z => q ((p_lt (by omega) (by omega)).mp z)), if_pos ix2]
        simp only [bnd]
        rw [o1]
        simp only [Option.bind_some]
        rw [h3, e44, a1]
        simp only [Option.bind_some]
        exact b1
      · have a3 : mQ t n X X1 [s] H (o - opw s) := ⟨a2.1, fun b j z1 z2 z3 => (a2.2.1 b j z1 z2 z3).trans ((u2_fr (by omega)).trans (u2_fr (by omega))), a2.2.2⟩
        exact a3.tr b2
      · show (uw r H (o - opw s)).1.length + ((uw r H (o - opw s)).2.2.length + 1) = H.length + 1
        omega
theorem m_unwinds {N : Nat} {ρ : Rh} {J : Nat → Nat → Int64} {r t : Nat} (hN : 200 ≤ N) (hr : r ≤ 9) (ht : t < 6) {H : List Int32} {o n : Nat} {X : Nat → Nat → Int32} (hb : H.length + n < 200) (h : mU X t H o n) : ∃ X', f_X12_unwinds N ρ X J (Int32.ofNat r) = some X' ∧ mQ t n X X' (uw r H o).2.2 (uw r H o).1 (uw r H o).2.1 ∧ (uw r H o).1.length + (uw r H o).2.2.length = H.length := by
  obtain ⟨X', a1, a2, a3⟩ := m_unw (N := N) (ρ := ρ) (J := J) hr ht H o n N X (by omega) hb h
  refine ⟨X', ?_, a2, a3⟩
  unfold f_X12_unwinds
  rw [a1]
  rfl
theorem tgN_hv {s : Int32} (h : ¬ tgN s = 9) : hv s ∧ cmw s = 0 ∧ (mcd s = -1 → False) ∧ ((12 : Int32) < mcd s ↔ ¬ rkc s ≤ 2) := by
  have hb := tgN_bw h
  unfold bw at hb
  have : s.toInt = -9 ∨ s.toInt = -10 ∨ s.toInt = -11 ∨ s.toInt = -12 ∨ s.toInt = -13 ∨ s.toInt = -14 ∨ s.toInt = -15 := by omega
  rcases this with z | z | z | z | z | z | z
  · have y : s = -9 := p_eq z
    subst y; exact ⟨by unfold hv; decide, by decide, by decide, by decide⟩
  · have y : s = -10 := p_eq z
    subst y; exact ⟨by unfold hv; decide, by decide, by decide, by decide⟩
  · have y : s = -11 := p_eq z
    subst y; exact ⟨by unfold hv; decide, by decide, by decide, by decide⟩
  · have y : s = -12 := p_eq z
    subst y; exact ⟨by unfold hv; decide, by decide, by decide, by decide⟩
  · have y : s = -13 := p_eq z
    subst y; exact ⟨by unfold hv; decide, by decide, by decide, by decide⟩
  · have y : s = -14 := p_eq z
    subst y; exact ⟨by unfold hv; decide, by decide, by decide, by decide⟩
  · have y : s = -15 := p_eq z
    subst y; exact ⟨by unfold hv; decide, by decide, by decide, by decide⟩
theorem m_between {N : Nat} {ρ : Rh} {J : Nat → Nat → Int64} {t : Nat} (hN : 200 ≤ N) (ht : t < 6) {H : List Int32} {o n : Nat} {X : Nat → Nat → Int32} (hb : H.length + n < 199) (h : mU X t H o n) {s : Int32} (hs : ¬ tgN s = 9) :
    (rkc s = 4 ∧ hdr (uw (sr s) H o).1 = 4 → ∃ X', f_X12_between N ρ X J (mcd s) = some (X', 0) ∧ mQ t n X X' (uw (sr s) H o).2.2 (uw (sr s) H o).1 (uw (sr s) H o).2.1) ∧
    (¬ (rkc s = 4 ∧ hdr (uw (sr s) H o).1 = 4) → ∃ X', f_X12_between N ρ X J (mcd s) = some (X', 1) ∧ mQ t n X X' (uw (sr s) H o).2.2 (s :: (uw (sr s) H o).1) (uw (sr s) H o).2.1) ∧
    (uw (sr s) H o).1.length + (uw (sr s) H o).2.2.length = H.length := by
  obtain ⟨v1, v2, v3, v4⟩ := tgN_hv hs
  have hk7 : rkc s ≤ 7 := by rcases v1 with z | z | z | z | z | z | z | z | z | z <;> subst z <;> decide
  have hsr : sr s ≤ 9 := by unfold sr; split <;> omega
  obtain ⟨X1, a1, a2, a3⟩ := m_unwinds (N := N) (ρ := ρ) (J := J) hN hsr ht (by omega) h
  have four : (Int32.ofNat (rkc s) = 4) ↔ rkc s = 4 := ⟨fun z => by have := congrArg Int32.toInt z; rw [p_nI (by omega)] at this; have e : (4 : Int32).toInt = 4 := rfl; omega, fun z => by rw [z]; rfl⟩
  have hj : (if Int32.ofNat (rkc s) = 4 then some (5 : Int32) else some (Int32.ofNat (rkc s))) = some (Int32.ofNat (sr s)) := by
    unfold sr
    by_cases q : rkc s = 4
    · rw [if_pos (four.mpr q), if_pos q]; rfl
    · rw [if_neg (fun z => q (four.mp z)), if_neg q]
  obtain ⟨H1, hH1⟩ : ∃ H1, H1 = (uw (sr s) H o).1 := ⟨_, rfl⟩
  obtain ⟨o1, ho1⟩ : ∃ o1, o1 = (uw (sr s) H o).2.1 := ⟨_, rfl⟩
  obtain ⟨cs, hcs⟩ : ∃ cs, cs = (uw (sr s) H o).2.2 := ⟨_, rfl⟩
  rw [← hH1, ← ho1, ← hcs] at a2
  rw [← hH1, ← hcs] at a3
  rw [← hH1, ← ho1, ← hcs]
  obtain ⟨u1, u2', u3, u4, u5, u6, u7⟩ := id a2.1
  obtain ⟨X2, b1, b2⟩ := m_hold (N := N) (ρ := ρ) (J := J) (by omega) a2.1 v1 (by rw [v2]; omega)
  have b2' : mQ t n X X2 cs (s :: H1) o1 := by
    have := a2.tr b2
    rw [List.append_nil] at this
    exact this
  have base : f_X12_between N ρ X J (mcd s) = (if Int32.ofNat (rkc s) = 4 then (if X1 89 43 ≤ 0 then some (X2, 1) else (if ¬ ((X1 89 43 - 1) < 0 ∨ 200 ≤ tn (X1 89 43 - 1)) then (Option.bind (f_X12_rank N ρ X1 J (X1 111 (tn (X1 89 43 - 1)))) fun v7 => (if v7 = 4 then some (X1, 0) else some (X2, 1))) else none)) else some (X2, 1)) := by
    unfold f_X12_between
    simp only [m_rank v1, Option.bind_some]
    rw [hj]
    simp only [Option.bind_some]
    rw [a1]
    simp only [Option.bind_some]
    rw [b1]
    simp only [Option.bind_some]
  rw [base]
  refine ⟨fun z => ?_, fun z => ?_, a3⟩
  · refine ⟨X1, ?_, a2⟩
    rw [if_pos (four.mpr z.1)]
    cases hH : H1 with
    | nil => rw [hH] at z; exact absurd z.2 (by decide)
    | cons a B =>
      rw [hH] at z u2' u5 a3
      have hl : X1 89 43 = Int32.ofNat (B.length + 1) := u2'
      have hlen : B.length + 1 + cs.length = H.length := a3
      have hl2 : X1 89 43 - 1 = Int32.ofNat B.length := by rw [hl, p_pred (by omega) (by omega)]; rfl
      rw [if_neg (by rw [hl, fa_le, p_nI (by omega)]; show ¬ _ ≤ (0 : Int); omega), hl2, if_pos (p_ixn (by omega) (by omega)), p_tnI (by omega), u5.2.1, m_rank u5.1]
      simp only [Option.bind_some]
      have z2 : rkc a = 4 := z.2
      rw [z2, if_pos (show Int32.ofNat 4 = 4 from rfl)]
  · refine ⟨X2, ?_, b2'⟩
    by_cases q : rkc s = 4
    · rw [if_pos (four.mpr q)]
      cases hH : H1 with
      | nil =>
        rw [hH] at u2'
        rw [if_pos (by rw [u2']; decide)]
      | cons a B =>
        rw [hH] at z u2' u5 a3
        have hl : X1 89 43 = Int32.ofNat (B.length + 1) := u2'
        have hlen : B.length + 1 + cs.length = H.length := a3
        have hl2 : X1 89 43 - 1 = Int32.ofNat B.length := by rw [hl, p_pred (by omega) (by omega)]; rfl
        rw [if_neg (by rw [hl, fa_le, p_nI (by omega)]; show ¬ _ ≤ (0 : Int); omega), hl2, if_pos (p_ixn (by omega) (by omega)), p_tnI (by omega), u5.2.1, m_rank u5.1]
        simp only [Option.bind_some]
        have ha7 : rkc a ≤ 7 := by rcases u5.1 with z | z | z | z | z | z | z | z | z | z <;> subst z <;> decide
        rw [if_neg (fun y => z ⟨q, by
          have := congrArg Int32.toInt y
          rw [p_nI (by omega)] at this
          have e : (4 : Int32).toInt = 4 := rfl
          show rkc a = 4
          omega⟩)]
    · rw [if_neg (fun y => q (four.mp y))]
