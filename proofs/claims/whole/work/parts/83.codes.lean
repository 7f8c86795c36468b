/-! ===== the pure layer: the codes of a text ===== -/
def wfc : List Int32 → Nat → Nat → Prop
  | [], d, e => d = e
  | c :: cs, d, e => c.toInt ≤ 9999 ∧ ∃ m, dpR c d m ∧ wfc cs m e
theorem wfc_app : ∀ (A B : List Int32) (d m e : Nat), wfc A d m → wfc B m e → wfc (A ++ B) d e
  | [], B, d, m, e, h, k => by have h' : d = m := h; rw [h']; exact k
  | c :: cs, B, d, m, e, h, k => by
    obtain ⟨h1, q, h2, h3⟩ := h
    exact ⟨h1, q, h2, wfc_app cs B q m e h3 k⟩
theorem tgN_bw {s : Int32} (h : ¬ tgN s = 9) : bw s (-15) (-9) := by
  unfold tgN at h
  by_cases h1 : s = -15
  · subst h1; exact ⟨by decide, by decide⟩
  by_cases h2 : s = -14
  · subst h2; exact ⟨by decide, by decide⟩
  by_cases h3 : s = -13
  · subst h3; exact ⟨by decide, by decide⟩
  by_cases h4 : s = -12
  · subst h4; exact ⟨by decide, by decide⟩
  by_cases h5 : s = -11
  · subst h5; exact ⟨by decide, by decide⟩
  by_cases h6 : s = -10
  · subst h6; exact ⟨by decide, by decide⟩
  by_cases h7 : s = -9
  · subst h7; exact ⟨by decide, by decide⟩
  rw [if_neg h1, if_neg h2, if_neg h3, if_neg h4, if_neg h5, if_neg h6, if_neg h7] at h
  exact absurd rfl h
theorem wf_lsg {T : Nat → Int32} {t : Nat} (ht : t ≤ 4) {R : Nat → Bool × Nat × List Int32} (hR : ∀ i, (R i).1 = true → ∀ d, wfc (R i).2.2 d (d + 1)) : ∀ (n i : Nat), (lsg T R t n i).1 = true → ∀ d, wfc (lsg T R t n i).2.2 (d + 1) (d + 1)
  | 0, i, _, d => rfl
  | n + 1, i, h, d => by
    by_cases hs : tg (T i) = Int32.ofNat t
    · have e0 : lsg T R t (n + 1) i = (if (R (i + 1)).1 = true then ((lsg T R t n (R (i + 1)).2.1).1, (lsg T R t n (R (i + 1)).2.1).2.1, (R (i + 1)).2.2 ++ (T i :: (lsg T R t n (R (i + 1)).2.1).2.2)) else (false, (R (i + 1)).2.1, (R (i + 1)).2.2)) := by
        show (if tg (T i) = Int32.ofNat t then _ else _) = _
        rw [if_pos hs]
      by_cases hp : (R (i + 1)).1 = true
      · rw [if_pos hp] at e0
        rw [e0] at h ⊢
        have hb := tgN_bw (s := T i) (by have := (tg_tgN ht).mp hs; omega)
        unfold bw at hb
        refine wfc_app _ _ _ _ _ (hR _ hp (d + 1)) ⟨by omega, d + 1, .inr (.inr ⟨hb, by omega, by omega⟩), ?_⟩
        exact wf_lsg ht hR n _ h d
      · rw [if_neg hp] at e0
        rw [e0] at h
        exact absurd h Bool.false_ne_true
    · have e0 : lsg T R t (n + 1) i = (true, i, []) := by
        show (if tg (T i) = Int32.ofNat t then _ else _) = _
        rw [if_neg hs]
      rw [e0]
      rfl
theorem wf_lvp {T : Nat → Int32} (hN : ∀ i, (T i).toInt ≤ 9999) : ∀ (f : Nat), (∀ i o, (lvp T f true i 0 o).1 = true → ∀ d, wfc (lvp T f true i 0 o).2.2 d (d + 1)) ∧ (∀ i t o, (lvp T f false i t o).1 = true → ∀ d, wfc (lvp T f false i t o).2.2 d (d + 1))
  | 0 => ⟨fun i o h => absurd h Bool.false_ne_true, fun i t o h => absurd h Bool.false_ne_true⟩
  | f + 1 => by
    obtain ⟨ih1, ih2⟩ := wf_lvp hN f
    constructor
    · intro i o h d
      by_cases c6 : -6 ≤ (T i).toInt
      · have e0 : lvp T (f + 1) true i 0 o = (true, i + 1, [T i]) := by
          show (if -6 ≤ (T i).toInt then _ else _) = _
          rw [if_pos c6]
        rw [e0]
        exact ⟨hN i, d + 1, .inl ⟨c6, rfl⟩, rfl⟩
      by_cases c14 : T i = -14
      · by_cases c5 : 5 ≤ o
        · have e0 : lvp T (f + 1) true i 0 o = (false, i, []) := by
            show (if -6 ≤ (T i).toInt then _ else if T i = -14 then (if 5 ≤ o then _ else _) else _) = _
            rw [if_neg c6, if_pos c14, if_pos c5]
          rw [e0] at h
          exact absurd h Bool.false_ne_true
        · obtain ⟨q, hq⟩ : ∃ q, q = lvp T f true (i + 1) 0 (o + 1) := ⟨_, rfl⟩
          have e0 : lvp T (f + 1) true i 0 o = (q.1, q.2.1, if q.1 = true then q.2.2 ++ [-7] else q.2.2) := by
            show (if -6 ≤ (T i).toInt then _ else if T i = -14 then (if 5 ≤ o then _ else _) else _) = _
            rw [if_neg c6, if_pos c14, if_neg c5, hq]
          rw [e0] at h
          have h1 : q.1 = true := h
          rw [if_pos h1] at e0
          rw [e0]
          have ih := ih1 (i + 1) (o + 1)
          rw [← hq] at ih
          exact wfc_app _ _ _ _ _ (ih h1 d) ⟨by decide, d + 1, .inr (.inl ⟨⟨by decide, by decide⟩, by omega, rfl⟩), rfl⟩
      by_cases c18 : T i = -18
      · by_cases c5 : 5 ≤ o
        · have e0 : lvp T (f + 1) true i 0 o = (false, i, []) := by
            show (if -6 ≤ (T i).toInt then _ else if T i = -14 then _ else if T i = -18 then (if 5 ≤ o then _ else _) else _) = _
            rw [if_neg c6, if_neg c14, if_pos c18, if_pos c5]
          rw [e0] at h
          exact absurd h Bool.false_ne_true
        · obtain ⟨q, hq⟩ : ∃ q, q = lvp T f false (i + 1) 0 (o + 1) := ⟨_, rfl⟩
          have e0 : lvp T (f + 1) true i 0 o = (if q.1 = true then (if T q.2.1 = -19 then (true, q.2.1 + 1, q.2.2) else (false, q.2)) else q) := by
            show (if -6 ≤ (T i).toInt then _ else if T i = -14 then _ else if T i = -18 then (if 5 ≤ o then _ else _) else _) = _
            rw [if_neg c6, if_neg c14, if_pos c18, if_neg c5, hq]
          have ih := ih2 (i + 1) 0 (o + 1)
          rw [← hq] at ih
          by_cases h1 : q.1 = true
          · rw [if_pos h1] at e0
            by_cases c19 : T q.2.1 = -19
            · rw [if_pos c19] at e0
              rw [e0]
              exact ih h1 d
            · rw [if_neg c19] at e0
              rw [e0] at h
              exact absurd h Bool.false_ne_true
          · rw [if_neg h1] at e0
            rw [e0] at h
            exact absurd h h1
      have e0 : lvp T (f + 1) true i 0 o = (false, i, []) := by
        show (if -6 ≤ (T i).toInt then _ else if T i = -14 then _ else if T i = -18 then _ else (false, i, [])) = _
        rw [if_neg c6, if_neg c14, if_neg c18]
      rw [e0] at h
      exact absurd h Bool.false_ne_true
    · intro i t o h d
      by_cases t4 : t ≤ 4
      · by_cases cnn : t = 2 ∧ T i = -8
        · by_cases c5 : 5 ≤ o
          · have e0 : lvp T (f + 1) false i t o = (false, i, []) := by
              show (if t ≤ 4 then (if t = 2 ∧ T i = -8 then (if 5 ≤ o then _ else _) else _) else _) = _
              rw [if_pos t4, if_pos cnn, if_pos c5]
            rw [e0] at h
            exact absurd h Bool.false_ne_true
          · obtain ⟨q, hq⟩ : ∃ q, q = lvp T f false (i + 1) 2 (o + 1) := ⟨_, rfl⟩
            have e0 : lvp T (f + 1) false i t o = (q.1, q.2.1, if q.1 = true then q.2.2 ++ [-8] else q.2.2) := by
              show (if t ≤ 4 then (if t = 2 ∧ T i = -8 then (if 5 ≤ o then _ else _) else _) else _) = _
              rw [if_pos t4, if_pos cnn, if_neg c5, hq]
            rw [e0] at h
            have h1 : q.1 = true := h
            rw [if_pos h1] at e0
            rw [e0]
            have ih := ih2 (i + 1) 2 (o + 1)
            rw [← hq] at ih
            exact wfc_app _ _ _ _ _ (ih h1 d) ⟨by decide, d + 1, .inr (.inl ⟨⟨by decide, by decide⟩, by omega, rfl⟩), rfl⟩
        · obtain ⟨q, hq⟩ : ∃ q, q = lvp T f false i (t + 1) o := ⟨_, rfl⟩
          obtain ⟨s, hs⟩ : ∃ s, s = lsg T (fun i => lvp T f false i (t + 1) o) t (if t = 2 then 1 else 160) q.2.1 := ⟨_, rfl⟩
          have e0 : lvp T (f + 1) false i t o = (if q.1 = true then (s.1, s.2.1, q.2.2 ++ s.2.2) else q) := by
            show (if t ≤ 4 then (if t = 2 ∧ T i = -8 then _ else _) else _) = _
            rw [if_pos t4, if_neg cnn, hs, hq]
          have ih := ih2 i (t + 1) o
          rw [← hq] at ih
          by_cases h1 : q.1 = true
          · rw [if_pos h1] at e0
            rw [e0] at h ⊢
            have h2 : s.1 = true := h
            have ls := wf_lsg (T := T) t4 (R := fun i => lvp T f false i (t + 1) o) (fun i h d => ih2 i (t + 1) o h d) (if t = 2 then 1 else 160) q.2.1
            rw [← hs] at ls
            exact wfc_app _ _ _ _ _ (ih h1 d) (ls h2 d)
          · rw [if_neg h1] at e0
            rw [e0] at h
            exact absurd h h1
      · have e0 : lvp T (f + 1) false i t o = lvp T f true i 0 o := by
          show (if t ≤ 4 then _ else lvp T f true i 0 o) = _
          rw [if_neg t4]
        rw [e0] at h ⊢
        exact ih1 i o h d
theorem wf_seg {f : Nat → Int32} : ∀ (L : List Int32) (i d e : Nat), wfc L d e → (∀ k, k < L.length → f (i + k) = L.getD k 0) → ∃ D : Nat → Nat, D i = d ∧ D (i + L.length) = e ∧ ∀ k, i ≤ k → k < i + L.length → dpR (f k) (D k) (D (k + 1))
  | [], i, d, e, h, _ => ⟨fun _ => d, rfl, h, fun k h1 h2 => by have h3 : k < i + 0 := h2; omega⟩
  | c :: cs, i, d, e, h, hf => by
    obtain ⟨h1, m, h2, h3⟩ := h
    obtain ⟨D, d1, d2, d3⟩ := wf_seg (f := f) cs (i + 1) m e h3 (fun k hk => by
      have := hf (k + 1) (by show k + 1 < cs.length + 1; omega)
      rw [show i + 1 + k = i + (k + 1) by omega]
      exact this)
    refine ⟨fun k => if k = i then d else D k, if_pos rfl, ?_, fun k k1 k2 => ?_⟩
    · show (if i + (cs.length + 1) = i then d else D (i + (cs.length + 1))) = e
      rw [if_neg (by omega), show i + (cs.length + 1) = i + 1 + cs.length by omega]
      exact d2
    · have k2' : k < i + (cs.length + 1) := k2
      show dpR (f k) (if k = i then d else D k) (if k + 1 = i then d else D (k + 1))
      rw [if_neg (show ¬ k + 1 = i by omega)]
      by_cases q : k = i
      · rw [if_pos q, q, d1]
        have := hf 0 (by show 0 < cs.length + 1; omega)
        have e1 : f i = c := this
        rw [e1]
        exact h2
      · rw [if_neg q]
        exact d3 k (by omega) (by omega)
theorem wf_top : ∀ (L : List Int32) (d e : Nat), wfc L d e → ∀ k, k < L.length → bw (L.getD k 0) (-15) 9999
  | [], _, _, _, k, h => absurd h (Nat.not_lt_zero k)
  | c :: cs, d, e, h, k, hk => by
    obtain ⟨h1, m, h2, h3⟩ := h
    cases k with
    | zero =>
      show bw c (-15) 9999
      unfold dpR bw at h2
      unfold bw
      omega
    | succ k => exact wf_top cs m e h3 k (by have : k + 1 < cs.length + 1 := hk; omega)
theorem lk_top {c : Nat → Nat} {sz p : Nat} : (lk c sz p).toInt ≤ 9999 := by
  unfold lk
  by_cases h1 : lb c sz p < sz
  · rw [if_pos h1]
    by_cases h2 : isL c (lb c sz p) = true
    · rw [if_pos h2]
      have hw : ∀ x, (wcd x).toInt ≤ 9999 := by
        intro x
        unfold wcd
        repeat' (first | decide | split)
      split
      · exact hw _
      · decide
    · rw [if_neg h2]
      by_cases h3 : isD c (lb c sz p) = true
      · rw [if_pos h3]
        by_cases h4 : run (isD c) sz (lb c sz p) - lb c sz p ≤ 4
        · rw [if_pos h4]
          obtain ⟨a1, a2, a3, a4⟩ := run_all (P := isD c) (sz := sz) (sz - lb c sz p) (lb c sz p) (by omega)
          have h5 := nvN_le (c := c) (b := lb c sz p) (n := run (isD c) sz (lb c sz p) - lb c sz p) (fun i hi => (isD_iff.mp (a3 (lb c sz p + i) (by omega) (by omega))).2)
          have h6 : 10 ^ (run (isD c) sz (lb c sz p) - lb c sz p) ≤ 10 ^ 4 := Nat.pow_le_pow_right (by decide) h4
          rw [p_nI (by omega)]
          omega
        · rw [if_neg h4]; decide
      · rw [if_neg h3]
        have hs : ∀ x, (sgn x).toInt ≤ 9999 := by
          intro x
          unfold sgn
          repeat' (first | decide | split)
        exact hs _
  · rw [if_neg h1]; decide
def mcd (c : Int32) : Int32 := if 0 ≤ c.toInt then 100000 + c else if c = -1 then 0 else if c = -2 then 1 else if c = -3 then 2 else if c = -4 then 3 else if c = -5 then 4 else if c = -6 then 5 else if c = -7 then 19 else if c = -8 then 13 else if c = -9 then 11 else if c = -10 then 12 else if c = -11 then 14 else if c = -12 then 15 else if c = -13 then 16 else if c = -14 then 17 else if c = -15 then 18 else 0
theorem cm_mcd {c : Int32} (h : bw c (-15) 9999) : cmR c (mcd c) := by
  unfold bw at h
  by_cases h0 : 0 ≤ c.toInt
  · have e : mcd c = 100000 + c := by unfold mcd; rw [if_pos h0]
    rw [e]
    refine .inl ⟨⟨h0, h.2⟩, ?_⟩
    rw [p_add (a := 100000) (by show _ ≤ (100000 : Int) + _; omega) (by show (100000 : Int) + _ < _; omega)]
    rfl
  · have : c.toInt = -1 ∨ c.toInt = -2 ∨ c.toInt = -3 ∨ c.toInt = -4 ∨ c.toInt = -5 ∨ c.toInt = -6 ∨ c.toInt = -7 ∨ c.toInt = -8 ∨ c.toInt = -9 ∨ c.toInt = -10 ∨ c.toInt = -11 ∨ c.toInt = -12 ∨ c.toInt = -13 ∨ c.toInt = -14 ∨ c.toInt = -15 := by omega
    rcases this with z | z | z | z | z | z | z | z | z | z | z | z | z | z | z
    · have y : c = -1 := p_eq z
      subst y; unfold cmR bw; decide
    · have y : c = -2 := p_eq z
      subst y; unfold cmR bw; decide
    · have y : c = -3 := p_eq z
      subst y; unfold cmR bw; decide
    · have y : c = -4 := p_eq z
      subst y; unfold cmR bw; decide
    · have y : c = -5 := p_eq z
      subst y; unfold cmR bw; decide
    · have y : c = -6 := p_eq z
      subst y; unfold cmR bw; decide
    · have y : c = -7 := p_eq z
      subst y; unfold cmR bw; decide
    · have y : c = -8 := p_eq z
      subst y; unfold cmR bw; decide
    · have y : c = -9 := p_eq z
      subst y; unfold cmR bw; decide
    · have y : c = -10 := p_eq z
      subst y; unfold cmR bw; decide
    · have y : c = -11 := p_eq z
      subst y; unfold cmR bw; decide
    · have y : c = -12 := p_eq z
      subst y; unfold cmR bw; decide
    · have y : c = -13 := p_eq z
      subst y; unfold cmR bw; decide
    · have y : c = -14 := p_eq z
      subst y; unfold cmR bw; decide
    · have y : c = -15 := p_eq z
      subst y; unfold cmR bw; decide
