/-! ===== the pure layer: the model's reading, over tokens ===== -/
def rkc (s : Int32) : Nat := if s = -18 then 0 else if s = -9 then 1 else if s = -10 then 2 else if s = -8 then 3 else if s = -11 then 4 else if s = -12 then 4 else if s = -13 then 5 else if s = -14 then 5 else if s = -15 then 6 else 7
def tgN (s : Int32) : Nat := if s = -15 then 4 else if s = -14 then 3 else if s = -13 then 3 else if s = -12 then 2 else if s = -11 then 2 else if s = -10 then 1 else if s = -9 then 0 else 9
def opw (s : Int32) : Nat := if s = -8 then 1 else if s = -7 then 1 else 0
def cn : List Int32 → Nat
  | [] => 0
  | h :: H => opw h + cn H
def uw (r : Nat) : List Int32 → Nat → List Int32 × Nat × List Int32
  | [], o => ([], o, [])
  | h :: H, o => if rkc h < r then (h :: H, o, []) else ((uw r H (o - opw h)).1, (uw r H (o - opw h)).2.1, h :: (uw r H (o - opw h)).2.2)
def hdr : List Int32 → Nat
  | [] => 9
  | h :: _ => rkc h
def lo (r : Nat) : List Int32 → Prop
  | [] => True
  | h :: _ => rkc h < r
def app (c : List Int32) (r : Bool × Nat × List Int32) : Bool × Nat × List Int32 := (r.1, r.2.1, c ++ r.2.2)
def sr (s : Int32) : Nat := if rkc s = 4 then 5 else rkc s
/-- the model's reading: mode 0 stands behind an operand, 1 and 2 want one (2: a not may stand) -/
def mrd (T : Nat → Int32) : Nat → Nat → List Int32 → Nat → Nat → Bool × Nat × List Int32
  | 0, i, _, _, _ => (false, i, [])
  | d + 1, i, H, o, 0 =>
    if T i = -20 then (if (uw 1 H o).1 = [] then (true, i, (uw 1 H o).2.2) else (false, i, (uw 1 H o).2.2))
    else if T i = -19 then (if (uw 1 H o).1 = [] then (false, i, (uw 1 H o).2.2) else app ((uw 1 H o).2.2 ++ (uw 7 ((uw 1 H o).1.tail) ((uw 1 H o).2.1 - 1)).2.2) (mrd T d (i + 1) (uw 7 ((uw 1 H o).1.tail) ((uw 1 H o).2.1 - 1)).1 (uw 7 ((uw 1 H o).1.tail) ((uw 1 H o).2.1 - 1)).2.1 0))
    else if tgN (T i) = 9 then (false, i, [])
    else if rkc (T i) = 4 ∧ hdr (uw (sr (T i)) H o).1 = 4 then (false, i, (uw (sr (T i)) H o).2.2)
    else app (uw (sr (T i)) H o).2.2 (mrd T d (i + 1) (T i :: (uw (sr (T i)) H o).1) (uw (sr (T i)) H o).2.1 (if rkc (T i) ≤ 2 then 2 else 1))
  | d + 1, i, H, o, md + 1 =>
    if -6 ≤ (T i).toInt then app (T i :: (uw 7 H o).2.2) (mrd T d (i + 1) (uw 7 H o).1 (uw 7 H o).2.1 0)
    else if T i = -14 then (if o = 5 then (false, i, []) else mrd T d (i + 1) (-7 :: H) (o + 1) 1)
    else if T i = -18 then (if o = 5 then (false, i, []) else mrd T d (i + 1) (-18 :: H) (o + 1) 2)
    else if T i = -8 then (if md = 0 then (false, i, []) else if o = 5 then (false, i, []) else mrd T d (i + 1) (-8 :: H) (o + 1) (md + 1))
    else (false, i, [])
def mr (T : Nat → Int32) (i : Nat) (H : List Int32) (o md : Nat) : Bool × Nat × List Int32 := mrd T (200 - i) i H o md
theorem mr_0 {T : Nat → Int32} {i : Nat} (h : i ≤ 160) (H : List Int32) (o : Nat) : mr T i H o 0 = if T i = -20 then (if (uw 1 H o).1 = [] then (true, i, (uw 1 H o).2.2) else (false, i, (uw 1 H o).2.2))
    else if T i = -19 then (if (uw 1 H o).1 = [] then (false, i, (uw 1 H o).2.2) else app ((uw 1 H o).2.2 ++ (uw 7 ((uw 1 H o).1.tail) ((uw 1 H o).2.1 - 1)).2.2) (mr T (i + 1) (uw 7 ((uw 1 H o).1.tail) ((uw 1 H o).2.1 - 1)).1 (uw 7 ((uw 1 H o).1.tail) ((uw 1 H o).2.1 - 1)).2.1 0))
    else if tgN (T i) = 9 then (false, i, [])
    else if rkc (T i) = 4 ∧ hdr (uw (sr (T i)) H o).1 = 4 then (false, i, (uw (sr (T i)) H o).2.2)
    else app (uw (sr (T i)) H o).2.2 (mr T (i + 1) (T i :: (uw (sr (T i)) H o).1) (uw (sr (T i)) H o).2.1 (if rkc (T i) ≤ 2 then 2 else 1)) := by
  unfold mr
  rw [show 200 - i = (200 - (i + 1)) + 1 by omega]
  rfl
theorem mr_1 {T : Nat → Int32} {i : Nat} (h : i ≤ 160) (H : List Int32) (o md : Nat) : mr T i H o (md + 1) = if -6 ≤ (T i).toInt then app (T i :: (uw 7 H o).2.2) (mr T (i + 1) (uw 7 H o).1 (uw 7 H o).2.1 0)
    else if T i = -14 then (if o = 5 then (false, i, []) else mr T (i + 1) (-7 :: H) (o + 1) 1)
    else if T i = -18 then (if o = 5 then (false, i, []) else mr T (i + 1) (-18 :: H) (o + 1) 2)
    else if T i = -8 then (if md = 0 then (false, i, []) else if o = 5 then (false, i, []) else mr T (i + 1) (-8 :: H) (o + 1) (md + 1))
    else (false, i, []) := by
  unfold mr
  rw [show 200 - i = (200 - (i + 1)) + 1 by omega]
  rfl
theorem app_app (a b : List Int32) (x : Bool × Nat × List Int32) : app a (app b x) = app (a ++ b) x := by
  show (x.1, x.2.1, a ++ (b ++ x.2.2)) = (x.1, x.2.1, (a ++ b) ++ x.2.2)
  rw [List.append_assoc]
theorem app_nil (x : Bool × Nat × List Int32) : app [] x = x := rfl
theorem cn_app : ∀ (A B : List Int32), cn (A ++ B) = cn A + cn B
  | [], B => by show cn B = 0 + cn B; omega
  | a :: A, B => by show opw a + cn (A ++ B) = opw a + cn A + cn B; rw [cn_app A B]; omega
theorem uw_app {r : Nat} : ∀ (A H : List Int32) (o : Nat), (∀ a, a ∈ A → r ≤ rkc a) → uw r (A ++ H) o = ((uw r H (o - cn A)).1, (uw r H (o - cn A)).2.1, A ++ (uw r H (o - cn A)).2.2)
  | [], H, o, _ => rfl
  | a :: A, H, o, h => by
    have h1 : ¬ rkc a < r := by have := h a (List.mem_cons_self ..); omega
    show (if rkc a < r then _ else ((uw r (A ++ H) (o - opw a)).1, (uw r (A ++ H) (o - opw a)).2.1, a :: (uw r (A ++ H) (o - opw a)).2.2)) = _
    rw [if_neg h1, uw_app A H (o - opw a) (fun x hx => h x (List.mem_cons_of_mem _ hx)), Nat.sub_sub]
    rfl
theorem uw_lo {r : Nat} {H : List Int32} (h : lo r H) (o : Nat) : uw r H o = (H, o, []) := by
  cases H with
  | nil => rfl
  | cons a H =>
    have h' : rkc a < r := h
    show (if rkc a < r then (a :: H, o, []) else _) = _
    rw [if_pos h']
theorem uw_pd {r : Nat} {A H : List Int32} (o : Nat) (hA : ∀ a, a ∈ A → r ≤ rkc a) (h : lo r H) : uw r (A ++ H) (o + cn A) = (H, o, A) := by
  rw [uw_app A H _ hA, Nat.add_sub_cancel, uw_lo h]
  show (H, o, A ++ []) = _
  rw [List.append_nil]
theorem lo_le {r q : Nat} (hq : r ≤ q) {H : List Int32} (h : lo r H) : lo q H := by
  cases H with
  | nil => trivial
  | cons a H => show rkc a < q; have : rkc a < r := h; omega
def blk (P : List Int32) : Prop := ∃ A s B, P = A ++ s :: B ∧ (∀ a, a ∈ A → 5 ≤ rkc a) ∧ rkc s = 4
theorem blk_app {P : List Int32} (h : blk P) (Q : List Int32) : blk (P ++ Q) := by
  obtain ⟨A, s, B, h1, h2, h3⟩ := h
  exact ⟨A, s, B ++ Q, by rw [h1, List.append_assoc]; rfl, h2, h3⟩
theorem blk_hdr {P : List Int32} (h : blk P) (H : List Int32) (o : Nat) : hdr (uw 5 (P ++ H) o).1 = 4 := by
  obtain ⟨A, s, B, h1, h2, h3⟩ := h
  rw [h1, List.append_assoc, uw_app A _ o h2]
  show hdr (uw 5 (s :: (B ++ H)) (o - cn A)).1 = 4
  rw [uw_lo (show lo 5 (s :: (B ++ H)) by show rkc s < 5; omega)]
  exact h3
/-- how a level ends -/
def eE (t : Nat) (s : Int32) (P : List Int32) : Prop := tgN s = 9 ∨ tgN s < t ∨ (tgN s = 2 ∧ blk P)
theorem tgN_rk (s : Int32) : (tgN s = 9 ∨ (tgN s = 0 ∧ rkc s = 1) ∨ (tgN s = 1 ∧ rkc s = 2) ∨ (tgN s = 2 ∧ rkc s = 4) ∨ (tgN s = 3 ∧ rkc s = 5) ∨ (tgN s = 4 ∧ rkc s = 6)) ∧ (tgN s = 9 ∨ opw s = 0) ∧ (¬ tgN s = 9 → ¬ s = -20 ∧ ¬ s = -19 ∧ ¬ s = -21) := by
  unfold tgN rkc opw
  by_cases h1 : s = -15
  · subst h1; decide
  by_cases h2 : s = -14
  · subst h2; decide
  by_cases h3 : s = -13
  · subst h3; decide
  by_cases h4 : s = -12
  · subst h4; decide
  by_cases h5 : s = -11
  · subst h5; decide
  by_cases h6 : s = -10
  · subst h6; decide
  by_cases h7 : s = -9
  · subst h7; decide
  rw [if_neg h1, if_neg h2, if_neg h3, if_neg h4, if_neg h5, if_neg h6, if_neg h7]
  exact ⟨.inl rfl, .inl rfl, fun z => absurd rfl z⟩
theorem tg_tgN {s : Int32} {t : Nat} (ht : t ≤ 4) : tg s = Int32.ofNat t ↔ tgN s = t := by
  have hn : ∀ q : Nat, q ≤ 4 → (Int32.ofNat q = Int32.ofNat t ↔ q = t) := fun q hq => ⟨fun z => by have := congrArg Int32.toInt z; rw [p_nI (by omega), p_nI (by omega)] at this; omega, fun z => by rw [z]⟩
  unfold tgN tg
  by_cases h1 : s = -15
  · rw [if_pos h1, if_pos h1]; exact hn 4 (by omega)
  by_cases h2 : s = -14
  · rw [if_neg h1, if_neg h1, if_pos h2, if_pos h2]; exact hn 3 (by omega)
  by_cases h3 : s = -13
  · rw [if_neg h1, if_neg h1, if_neg h2, if_neg h2, if_pos h3, if_pos h3]; exact hn 3 (by omega)
  by_cases h4 : s = -12
  · rw [if_neg h1, if_neg h1, if_neg h2, if_neg h2, if_neg h3, if_neg h3, if_pos h4, if_pos h4]; exact hn 2 (by omega)
  by_cases h5 : s = -11
  · rw [if_neg h1, if_neg h1, if_neg h2, if_neg h2, if_neg h3, if_neg h3, if_neg h4, if_neg h4, if_pos h5, if_pos h5]; exact hn 2 (by omega)
  by_cases h6 : s = -10
  · rw [if_neg h1, if_neg h1, if_neg h2, if_neg h2, if_neg h3, if_neg h3, if_neg h4, if_neg h4, if_neg h5, if_neg h5, if_pos h6, if_pos h6]; exact hn 1 (by omega)
  by_cases h7 : s = -9
  · rw [if_neg h1, if_neg h1, if_neg h2, if_neg h2, if_neg h3, if_neg h3, if_neg h4, if_neg h4, if_neg h5, if_neg h5, if_neg h6, if_neg h6, if_pos h7, if_pos h7]; exact hn 0 (by omega)
  rw [if_neg h1, if_neg h1, if_neg h2, if_neg h2, if_neg h3, if_neg h3, if_neg h4, if_neg h4, if_neg h5, if_neg h5, if_neg h6, if_neg h6, if_neg h7, if_neg h7]
  constructor
  · intro z
    have := congrArg Int32.toInt z
    rw [p_nI (by omega)] at this
    have e : (-1 : Int32).toInt = -1 := rfl
    omega
  · intro z; omega
/-- behind a whole expression the model stops where nothing goes on -/
theorem mr_stuck {T : Nat → Int32} {i : Nat} (hi : i ≤ 160) {P : List Int32} (hE : eE 0 (T i) P) (h1 : ¬ T i = -20) (h2 : ¬ T i = -19) (H : List Int32) (o : Nat) : (mr T i (P ++ H) o 0).1 = false ∧ (mr T i (P ++ H) o 0).2.1 = i := by
  rw [mr_0 hi, if_neg h1, if_neg h2]
  by_cases h9 : tgN (T i) = 9
  · rw [if_pos h9]; exact ⟨rfl, rfl⟩
  · rw [if_neg h9]
    rcases hE with h | h | ⟨h, hb⟩
    · exact absurd h h9
    · omega
    · obtain ⟨k1, k2, k3⟩ := tgN_rk (T i)
      have r4 : rkc (T i) = 4 := by omega
      have s5 : sr (T i) = 5 := by unfold sr; rw [if_pos r4]
      rw [s5, if_pos ⟨r4, blk_hdr hb H o⟩]
      exact ⟨rfl, rfl⟩
def prT (t : Nat) : Nat := if t = 0 then 1 else if t = 1 then 2 else if t = 2 then 4 else t + 2
def pdT (t : Nat) : Nat := if t = 0 then 1 else if t = 1 then 2 else if t = 2 then 3 else t + 2
def rrT (t : Nat) : Nat := if t = 0 then 1 else if t = 1 then 2 else if t = 2 then 5 else t + 2
theorem prd (t : Nat) (h : t ≤ 4) : prT t ≤ rrT t ∧ prT t ≤ prT (t + 1) ∧ pdT t ≤ pdT (t + 1) ∧ (¬ t = 2 → rrT t = pdT t) ∧ pdT t ≤ rrT t ∧ rrT t ≤ pdT (t + 1) := by
  have : t = 0 ∨ t = 1 ∨ t = 2 ∨ t = 3 ∨ t = 4 := by omega
  rcases this with h | h | h | h | h <;> subst h <;> decide
theorem sgn_t {s : Int32} {t : Nat} (h : t ≤ 4) (hs : tgN s = t) : sr s = rrT t ∧ rkc s < prT (t + 1) ∧ pdT t ≤ rkc s ∧ (rkc s = 4 ↔ t = 2) ∧ opw s = 0 ∧ (rkc s ≤ 2 ↔ t ≤ 1) ∧ rkc s ≤ 6 := by
  obtain ⟨k1, k2, k3⟩ := tgN_rk s
  have : t = 0 ∨ t = 1 ∨ t = 2 ∨ t = 3 ∨ t = 4 := by omega
  have key : ∀ r : Nat, rkc s = r → sr s = if r = 4 then 5 else r := fun r z => by unfold sr; rw [z]
  have k4 : opw s = 0 := by rcases k2 with z | z <;> omega
  rcases this with h | h | h | h | h <;> subst h <;> (rcases k1 with k | k | k | k | k | k) <;> first | (exfalso; omega) | (rw [key _ k.2, k.2]; exact ⟨by decide, by decide, by decide, by decide, k4, by decide, by decide⟩)
def oneR (T : Nat → Int32) (i o : Nat) (H : List Int32) (md : Nat) (r : Bool × Nat × List Int32) : Prop :=
  (r.1 = true ∧ i < r.2.1 ∧ r.2.1 ≤ 160 ∧ mr T i H o md = app r.2.2 (app (uw 7 H o).2.2 (mr T r.2.1 (uw 7 H o).1 (uw 7 H o).2.1 0))) ∨
  (r.1 = false ∧ i ≤ r.2.1 ∧ r.2.1 ≤ 160 ∧ (mr T i H o md).1 = false ∧ (mr T i H o md).2.1 = r.2.1)
def levR (T : Nat → Int32) (t i o : Nat) (H : List Int32) (md : Nat) (r : Bool × Nat × List Int32) : Prop :=
  (r.1 = true ∧ i < r.2.1 ∧ r.2.1 ≤ 160 ∧ ∃ out P, r.2.2 = out ++ P ∧ (∀ p, p ∈ P → pdT t ≤ rkc p) ∧ eE t (T r.2.1) P ∧ mr T i H o md = app out (mr T r.2.1 (P ++ H) (o + cn P) 0)) ∨
  (r.1 = false ∧ i ≤ r.2.1 ∧ r.2.1 ≤ 160 ∧ (mr T i H o md).1 = false ∧ (mr T i H o md).2.1 = r.2.1)
def lsgR (T : Nat → Int32) (t i o : Nat) (H P0 : List Int32) (r : Bool × Nat × List Int32) : Prop :=
  (r.1 = true ∧ i ≤ r.2.1 ∧ r.2.1 ≤ 160 ∧ ∃ out P, P0 ++ r.2.2 = out ++ P ∧ (∀ p, p ∈ P → pdT t ≤ rkc p) ∧ eE t (T r.2.1) P ∧ mr T i (P0 ++ H) (o + cn P0) 0 = app out (mr T r.2.1 (P ++ H) (o + cn P) 0)) ∨
  (r.1 = false ∧ i ≤ r.2.1 ∧ r.2.1 ≤ 160 ∧ (mr T i (P0 ++ H) (o + cn P0) 0).1 = false ∧ (mr T i (P0 ++ H) (o + cn P0) 0).2.1 = r.2.1)
theorem sim_lsg {T : Nat → Int32} (hT : ∀ i, 160 ≤ i → T i = -21) {t o : Nat} (ht : t ≤ 4) {R : Nat → Bool × Nat × List Int32} {H : List Int32} (hH : lo (prT t) H)
    (hR : ∀ i H md, i ≤ 160 → lo (prT (t + 1)) H → (md = 2 ∧ t + 1 ≤ 2 ∨ md = 1 ∧ 3 ≤ t + 1) → levR T (t + 1) i o H md (R i)) : ∀ (n i : Nat) (P : List Int32), i ≤ 160 → (1 ≤ n → ∀ p, p ∈ P → rrT t ≤ rkc p) → (∀ p, p ∈ P → pdT t ≤ rkc p) → (n = 0 → eE t (T i) P) → eE (t + 1) (T i) P → (t = 2 → n ≤ 1) → (¬ t = 2 → 160 ≤ n + i) → lsgR T t i o H P (lsg T R t n i)
  | 0, i, P, hi, h1, h2, h3, h4, h5, h6 => .inl ⟨rfl, Nat.le_refl _, hi, [], P, by show P ++ [] = P; rw [List.append_nil], h2, h3 rfl, rfl⟩
  | n + 1, i, P, hi, h1, h2, h3, h4, h5, h6 => by
    by_cases hs : tg (T i) = Int32.ofNat t
    · have hs' := (tg_tgN ht).mp hs
      obtain ⟨s1, s2, s3, s4, s5, s6, s7⟩ := sgn_t ht hs'
      obtain ⟨k1, k2, k3⟩ := tgN_rk (T i)
      obtain ⟨k4, k5, k6⟩ := k3 (by omega)
      obtain ⟨d1, d2, d3, d4, d5, d6⟩ := prd t ht
      have hi2 : i < 160 := by
        apply Decidable.byContradiction
        intro z
        exact k6 (hT i (by omega))
      have hst : mr T i (P ++ H) (o + cn P) 0 = app P (mr T (i + 1) (T i :: H) o (if t ≤ 1 then 2 else 1)) := by
        rw [mr_0 hi, if_neg k4, if_neg k5, if_neg (by omega), s1, uw_pd o (h1 (by omega)) (lo_le d1 hH)]
        rw [if_neg (fun z => by
          have z2 : hdr H = 4 := z.2
          have t2 := s4.mp z.1
          subst t2
          cases H with
          | nil => exact absurd z2 (by decide)
          | cons a H =>
            have : rkc a < 4 := hH
            have z3 : rkc a = 4 := z2
            omega)]
        by_cases q : t ≤ 1
        · rw [if_pos (s6.mpr q), if_pos q]
        · rw [if_neg (fun z => q (s6.mp z)), if_neg q]
      have e0 : lsg T R t (n + 1) i = (if (R (i + 1)).1 = true then ((lsg T R t n (R (i + 1)).2.1).1, (lsg T R t n (R (i + 1)).2.1).2.1, (R (i + 1)).2.2 ++ (T i :: (lsg T R t n (R (i + 1)).2.1).2.2)) else (false, (R (i + 1)).2.1, (R (i + 1)).2.2)) := by
        show (if tg (T i) = Int32.ofNat t then _ else _) = _
        rw [if_pos hs]
      have hm : ((if t ≤ 1 then 2 else 1) = 2 ∧ t + 1 ≤ 2 ∨ (if t ≤ 1 then 2 else 1) = 1 ∧ 3 ≤ t + 1) := by
        by_cases q : t ≤ 1
        · rw [if_pos q]; exact .inl ⟨rfl, by omega⟩
        · rw [if_neg q]; exact .inr ⟨rfl, by omega⟩
      rcases hR (i + 1) (T i :: H) (if t ≤ 1 then 2 else 1) (by omega) s2 hm with ⟨a1, a2, a3, out, P2, a4, a5, a6, a7⟩ | ⟨a1, a2, a3, a4, a5⟩
      · rw [if_pos a1] at e0
        have hP2 : ∀ p, p ∈ P2 ++ [T i] → pdT t ≤ rkc p := by
          intro p hp
          rcases List.mem_append.mp hp with z | z
          · have := a5 p z; omega
          · rw [List.mem_singleton] at z; rw [z]; exact s3
        have hE2 : eE (t + 1) (T (R (i + 1)).2.1) (P2 ++ [T i]) := by
          rcases a6 with z | z | ⟨z, zb⟩
          · exact .inl z
          · exact .inr (.inl z)
          · exact .inr (.inr ⟨z, blk_app zb _⟩)
        have hc : cn (P2 ++ [T i]) = cn P2 := by rw [cn_app]; show cn P2 + (opw (T i) + 0) = _; omega
        have hap : (P2 ++ [T i]) ++ H = P2 ++ T i :: H := by rw [List.append_assoc]; rfl
        have ih := sim_lsg hT ht hH hR n (R (i + 1)).2.1 (P2 ++ [T i]) a3 (fun z p hp => by
          have h2t : ¬ t = 2 := fun q => by have := h5 q; omega
          rw [d4 h2t]; exact hP2 p hp) hP2 (fun z => by
            by_cases h2t : t = 2
            · rcases hE2 with y | y | ⟨y, yb⟩
              · exact .inl y
              · by_cases q : tgN (T (R (i + 1)).2.1) = 2
                · refine .inr (.inr ⟨q, P2, T i, [], rfl, fun p hp => ?_, s4.mpr h2t⟩)
                  have := a5 p hp
                  subst h2t
                  exact this
                · exact .inr (.inl (by omega))
              · exact .inr (.inr ⟨y, yb⟩)
            · have := h6 h2t
              have : T (R (i + 1)).2.1 = -21 := hT _ (by omega)
              rw [this]
              exact .inl rfl) hE2 (fun q => by have := h5 q; omega) (fun q => by have := h6 q; omega)
        unfold lsgR at ih
        rw [hap, hc] at ih
        rcases ih with ⟨b1, b2, b3, out2, P3, b4, b5, b6, b7⟩ | ⟨b1, b2, b3, b4, b5⟩
        · refine .inl ?_
          rw [e0]
          refine ⟨b1, by show i ≤ (lsg T R t n (R (i + 1)).2.1).2.1; omega, b3, P ++ (out ++ out2), P3, ?_, b5, b6, ?_⟩
          · show P ++ ((R (i + 1)).2.2 ++ (T i :: (lsg T R t n (R (i + 1)).2.1).2.2)) = _
            rw [a4, List.append_assoc, List.append_assoc, List.append_assoc, ← b4, List.append_assoc]
            rfl
          · rw [hst, a7, b7, app_app, app_app, List.append_assoc]
        · refine .inr ?_
          rw [e0]
          refine ⟨b1, by show i ≤ (lsg T R t n (R (i + 1)).2.1).2.1; omega, b3, ?_, ?_⟩
          · rw [hst, a7]; exact b4
          · rw [hst, a7]; exact b5
      · rw [if_neg (by rw [a1]; exact Bool.false_ne_true)] at e0
        refine .inr ?_
        rw [e0]
        refine ⟨rfl, by show i ≤ (R (i + 1)).2.1; omega, a3, ?_, ?_⟩
        · rw [hst]; exact a4
        · rw [hst]; exact a5
    · have e0 : lsg T R t (n + 1) i = (true, i, []) := by
        show (if tg (T i) = Int32.ofNat t then _ else _) = _
        rw [if_neg hs]
      refine .inl ?_
      rw [e0]
      refine ⟨rfl, Nat.le_refl _, hi, [], P, by show P ++ [] = P; rw [List.append_nil], h2, ?_, rfl⟩
      rcases h4 with z | z | z
      · exact .inl z
      · exact .inr (.inl (by have : ¬ tgN (T i) = t := fun y => hs ((tg_tgN ht).mpr y); show tgN (T i) < t; omega))
      · exact .inr (.inr z)
