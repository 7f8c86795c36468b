/-! ===== the pure layer: the reading of a text, the class ===== -/
def cu (c : Nat → Nat) (sz : Nat) : Nat → Nat
  | 0 => 0
  | i + 1 => le c sz (cu c sz i)
def tT (c : Nat → Nat) (sz i : Nat) : Int32 := lk c sz (cu c sz i)
theorem cu_le {c : Nat → Nat} {sz : Nat} : ∀ i, cu c sz i ≤ sz
  | 0 => Nat.zero_le _
  | i + 1 => (le_bw (cu_le i)).2.1
theorem cu_up {c : Nat → Nat} {sz i : Nat} (h : ¬ tT c sz i = -21) : cu c sz i + 1 ≤ cu c sz (i + 1) := by
  have h1 := cu_le (c := c) (sz := sz) i
  obtain ⟨a1, a2, a3⟩ := le_bw (c := c) h1
  obtain ⟨b1, b2⟩ := lb_bw (c := c) h1
  have hb : lb c sz (cu c sz i) < sz := by
    apply Decidable.byContradiction
    intro z
    exact h (by unfold tT lk; rw [if_neg z])
  have := a3 hb
  show _ ≤ le c sz (cu c sz i)
  omega
def tg (s : Int32) : Int32 := if s = -15 then 4 else if s = -14 then 3 else if s = -13 then 3 else if s = -12 then 2 else if s = -11 then 2 else if s = -10 then 1 else if s = -9 then 0 else -1
theorem c_tg {N : Nat} {ρ : Rh} {I : Nat → Nat → Int32} {J : Nat → Nat → Int64} (s : Int32) : f_X8_tightnessOf N ρ I J s = some (tg s) := by
  unfold f_X8_tightnessOf tg
  repeat' (first | rfl | split)
/-- signs of one tightness, one behind another -/
def lsg (T : Nat → Int32) (R : Nat → Bool × Nat × List Int32) (t : Nat) : Nat → Nat → Bool × Nat × List Int32
  | 0, i => (true, i, [])
  | n + 1, i => if tg (T i) = Int32.ofNat t then
      (if (R (i + 1)).1 = true then
        ((lsg T R t n (R (i + 1)).2.1).1, (lsg T R t n (R (i + 1)).2.1).2.1, (R (i + 1)).2.2 ++ (T i :: (lsg T R t n (R (i + 1)).2.1).2.2))
      else (false, (R (i + 1)).2.1, (R (i + 1)).2.2))
    else (true, i, [])
def lvp (T : Nat → Int32) : Nat → Bool → Nat → Nat → Nat → Bool × Nat × List Int32
  | 0, _, i, _, _ => (false, i, [])
  | f + 1, true, i, _, o =>
    if -6 ≤ (T i).toInt then (true, i + 1, [T i])
    else if T i = -14 then (if 5 ≤ o then (false, i, []) else ((lvp T f true (i + 1) 0 (o + 1)).1, (lvp T f true (i + 1) 0 (o + 1)).2.1, if (lvp T f true (i + 1) 0 (o + 1)).1 = true then (lvp T f true (i + 1) 0 (o + 1)).2.2 ++ [-7] else (lvp T f true (i + 1) 0 (o + 1)).2.2))
    else if T i = -18 then (if 5 ≤ o then (false, i, []) else (if (lvp T f false (i + 1) 0 (o + 1)).1 = true then (if T (lvp T f false (i + 1) 0 (o + 1)).2.1 = -19 then (true, (lvp T f false (i + 1) 0 (o + 1)).2.1 + 1, (lvp T f false (i + 1) 0 (o + 1)).2.2) else (false, (lvp T f false (i + 1) 0 (o + 1)).2)) else lvp T f false (i + 1) 0 (o + 1)))
    else (false, i, [])
  | f + 1, false, i, t, o =>
    if t ≤ 4 then
      (if t = 2 ∧ T i = -8 then (if 5 ≤ o then (false, i, []) else ((lvp T f false (i + 1) 2 (o + 1)).1, (lvp T f false (i + 1) 2 (o + 1)).2.1, if (lvp T f false (i + 1) 2 (o + 1)).1 = true then (lvp T f false (i + 1) 2 (o + 1)).2.2 ++ [-8] else (lvp T f false (i + 1) 2 (o + 1)).2.2))
      else (if (lvp T f false i (t + 1) o).1 = true then
          ((lsg T (fun i => lvp T f false i (t + 1) o) t (if t = 2 then 1 else 160) (lvp T f false i (t + 1) o).2.1).1, (lsg T (fun i => lvp T f false i (t + 1) o) t (if t = 2 then 1 else 160) (lvp T f false i (t + 1) o).2.1).2.1, (lvp T f false i (t + 1) o).2.2 ++ (lsg T (fun i => lvp T f false i (t + 1) o) t (if t = 2 then 1 else 160) (lvp T f false i (t + 1) o).2.1).2.2)
        else lvp T f false i (t + 1) o))
    else lvp T f true i 0 o
def cP (c : Nat → Nat) (sz : Nat) (I : Nat → Nat → Int32) (i len : Nat) : Prop := I 35 5 = tT c sz i ∧ I 35 6 = Int32.ofNat (lb c sz (cu c sz i)) ∧ I 35 7 = Int32.ofNat (cu c sz (i + 1)) ∧ I 35 3 = Int32.ofNat len ∧ I 35 1 = Int32.ofNat sz ∧ tBy I ∧ tc I = c ∧ i ≤ cu c sz i ∧ len ≤ i
def pFr (I I' : Nat → Nat → Int32) (len : Nat) : Prop := ∀ b j, ¬ (b = 35 ∧ (j = 3 ∨ j = 5 ∨ j = 6 ∨ j = 7)) → ¬ (b = 37 ∧ len ≤ j) → I' b j = I b j
theorem c_adv {N : Nat} (hN : 200 ≤ N) {ρ : Rh} {J : Nat → Nat → Int64} {c : Nat → Nat} {sz i len : Nat} {I : Nat → Nat → Int32} (hsz : sz ≤ 160) (h : cP c sz I i len) (ht : ¬ tT c sz i = -21) : ∃ I', f_X8_next N ρ I J = some I' ∧ cP c sz I' (i + 1) len ∧ (∀ b j, ¬ (b = 35 ∧ (j = 5 ∨ j = 6 ∨ j = 7)) → I' b j = I b j) := by
  obtain ⟨h1, h2, h3, h4, h5, h6, h7, h8, h9⟩ := h
  obtain ⟨I', g1, g2, g3, g4, g5⟩ := c_next hN (ρ := ρ) (J := J) h6 hsz (cu_le (c := c) (i + 1)) h5 h3
  rw [h7] at g3 g4 g5
  have hu := cu_up ht
  refine ⟨I', g1, ⟨g5, g3, g4, (g2 35 3 (by omega)).trans h4, (g2 35 1 (by omega)).trans h5, fun k hk => ?_, ?_, by omega, by omega⟩, g2⟩
  · rw [g2 36 k (by omega), g2 97 k (by omega)]; exact h6 k hk
  · rw [← h7]; funext k; unfold tc; rw [g2 97 k (by omega)]
theorem c_skip {N : Nat} (hN : 200 ≤ N) {ρ : Rh} {J : Nat → Nat → Int64} {c : Nat → Nat} {sz i len : Nat} {I : Nat → Nat → Int32} (hsz : sz ≤ 160) (h : cP c sz I i len) {w : Int32} (hw : ¬ w = -21) : ∃ I', f_X8_skip N ρ I J w = some (I', if tT c sz i = w then 1 else 0) ∧ cP c sz I' (if tT c sz i = w then i + 1 else i) len ∧ (∀ b j, ¬ (b = 35 ∧ (j = 5 ∨ j = 6 ∨ j = 7)) → I' b j = I b j) := by
  by_cases ht : tT c sz i = w
  · obtain ⟨I', g1, g2, g3⟩ := c_adv hN (ρ := ρ) (J := J) hsz h (by rw [ht]; exact hw)
    refine ⟨I', ?_, by rw [if_pos ht]; exact g2, g3⟩
    unfold f_X8_skip
    rw [h.1, if_pos ht, g1, if_pos ht]
    rfl
  · refine ⟨I, ?_, by rw [if_neg ht]; exact h, fun _ _ _ => rfl⟩
    unfold f_X8_skip
    rw [h.1, if_neg ht, if_neg ht]
theorem c_put {N : Nat} {ρ : Rh} {J : Nat → Nat → Int64} {c : Nat → Nat} {sz i len : Nat} {I : Nat → Nat → Int32} (hsz : sz ≤ 160) (h : cP c sz I i len) (hlt : len < i) (v : Int32) : f_X8_put N ρ I J v = some (u2 (u2 I 37 len v) 35 3 (Int32.ofNat (len + 1)), 1) ∧ cP c sz (u2 (u2 I 37 len v) 35 3 (Int32.ofNat (len + 1))) i (len + 1) := by
  obtain ⟨h1, h2, h3, h4, h5, h6, h7, h8, h9⟩ := h
  have hc := cu_le (c := c) (sz := sz) i
  constructor
  · unfold f_X8_put
    rw [h4, if_pos (by rw [fa_lt, p_nI (by omega)]; show _ < (160 : Int); omega), if_pos (p_ixn (by omega) (by omega)), p_tnI (by omega), p_succ (by omega)]
  · refine ⟨(u2_fr (by omega)).trans ((u2_fr (by omega)).trans h1), (u2_fr (by omega)).trans ((u2_fr (by omega)).trans h2), (u2_fr (by omega)).trans ((u2_fr (by omega)).trans h3), u2_at, (u2_fr (by omega)).trans ((u2_fr (by omega)).trans h5), fun k hk => ?_, ?_, h8, by omega⟩
    · rw [u2_fr (by omega), u2_fr (by omega), u2_fr (by omega), u2_fr (by omega)]; exact h6 k hk
    · rw [← h7]; funext k; unfold tc; rw [u2_fr (by omega), u2_fr (by omega)]
/-- what a piece of reading leaves: where it stands, and the codes put -/
def cQ (c : Nat → Nat) (sz : Nat) (I I' : Nat → Nat → Int32) (len : Nat) (r : Bool × Nat × List Int32) : Prop := cP c sz I' r.2.1 (len + r.2.2.length) ∧ pFr I I' len ∧ ∀ j, j < r.2.2.length → I' 37 (len + j) = r.2.2.getD j 0
