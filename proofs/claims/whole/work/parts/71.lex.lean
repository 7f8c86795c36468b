/-! ===== the pure layer: tokens ===== -/
def rn (P : Nat → Bool) (sz : Nat) : Nat → Nat → Nat
  | 0, p => p
  | f + 1, p => if p < sz then (if P p = true then rn P sz f (p + 1) else p) else p
def run (P : Nat → Bool) (sz p : Nat) : Nat := rn P sz (sz - p) p
theorem run_end {P : Nat → Bool} {sz p : Nat} (h : sz ≤ p) : run P sz p = p := by
  unfold run
  rw [show sz - p = 0 by omega]
  rfl
theorem run_no {P : Nat → Bool} {sz p : Nat} (h : p < sz) (h2 : ¬ P p = true) : run P sz p = p := by
  unfold run
  rw [show sz - p = (sz - p - 1) + 1 by omega]
  show (if p < sz then (if P p = true then _ else p) else p) = p
  rw [if_pos h, if_neg h2]
theorem run_yes {P : Nat → Bool} {sz p : Nat} (h : p < sz) (h2 : P p = true) : run P sz p = run P sz (p + 1) := by
  unfold run
  rw [show sz - p = (sz - (p + 1)) + 1 by omega]
  show (if p < sz then (if P p = true then rn P sz (sz - (p + 1)) (p + 1) else p) else p) = _
  rw [if_pos h, if_pos h2]
theorem run_all {P : Nat → Bool} {sz : Nat} : ∀ (e p : Nat), p + e = sz → p ≤ run P sz p ∧ run P sz p ≤ sz ∧ (∀ q, p ≤ q → q < run P sz p → P q = true) ∧ (run P sz p < sz → ¬ P (run P sz p) = true)
  | 0, p, h => by
    rw [run_end (by omega)]
    exact ⟨Nat.le_refl _, by omega, fun q h1 h2 => absurd h1 (by omega), fun z => absurd z (by omega)⟩
  | e + 1, p, h => by
    by_cases hp : P p = true
    · rw [run_yes (by omega) hp]
      obtain ⟨a1, a2, a3, a4⟩ := run_all (P := P) (sz := sz) e (p + 1) (by omega)
      refine ⟨by omega, a2, fun q h1 h2 => ?_, a4⟩
      by_cases hq : q = p
      · subst hq; exact hp
      · exact a3 q (by omega) h2
    · rw [run_no (by omega) hp]
      exact ⟨Nat.le_refl _, by omega, fun q h1 h2 => absurd h1 (by omega), fun _ => hp⟩
def isW (c : Nat → Nat) (p : Nat) : Bool := if c p = 32 then true else if c p = 10 then true else false
def isL (c : Nat → Nat) (p : Nat) : Bool := if c p < 97 then false else if 122 < c p then false else true
def isD (c : Nat → Nat) (p : Nat) : Bool := if c p < 48 then false else if 57 < c p then false else true
theorem isL_iff {c : Nat → Nat} {p : Nat} : isL c p = true ↔ 97 ≤ c p ∧ c p ≤ 122 := by
  unfold isL
  by_cases h1 : c p < 97
  · rw [if_pos h1]; exact ⟨fun z => absurd z (by decide), fun z => absurd z.1 (by omega)⟩
  · rw [if_neg h1]
    by_cases h2 : 122 < c p
    · rw [if_pos h2]; exact ⟨fun z => absurd z (by decide), fun z => absurd z.2 (by omega)⟩
    · rw [if_neg h2]; exact ⟨fun _ => by omega, fun _ => rfl⟩
theorem isD_iff {c : Nat → Nat} {p : Nat} : isD c p = true ↔ 48 ≤ c p ∧ c p ≤ 57 := by
  unfold isD
  by_cases h1 : c p < 48
  · rw [if_pos h1]; exact ⟨fun z => absurd z (by decide), fun z => absurd z.1 (by omega)⟩
  · rw [if_neg h1]
    by_cases h2 : 57 < c p
    · rw [if_pos h2]; exact ⟨fun z => absurd z (by decide), fun z => absurd z.2 (by omega)⟩
    · rw [if_neg h2]; exact ⟨fun _ => by omega, fun _ => rfl⟩
theorem isW_iff {c : Nat → Nat} {p : Nat} : isW c p = true ↔ c p = 32 ∨ c p = 10 := by
  unfold isW
  by_cases h1 : c p = 32
  · rw [if_pos h1]; exact ⟨fun _ => Or.inl h1, fun _ => rfl⟩
  · rw [if_neg h1]
    by_cases h2 : c p = 10
    · rw [if_pos h2]; exact ⟨fun _ => Or.inr h2, fun _ => rfl⟩
    · rw [if_neg h2]; exact ⟨fun z => absurd z (by decide), fun z => absurd z (by omega)⟩
/-- letters packed -/
def pkN (c : Nat → Nat) (b : Nat) : Nat → Nat
  | 0 => 0
  | n + 1 => pkN c b n * 256 + c (b + n)
/-- a number's worth -/
def nvN (c : Nat → Nat) (b : Nat) : Nat → Nat
  | 0 => 0
  | n + 1 => 10 * nvN c b n + (c (b + n) - 48)
def wcd (x : Nat) : Int32 := if x = 1852138852 then -16 else if x = 7499639 then -17 else if x = 28530 then -9 else if x = 6385252 then -10 else if x = 7237492 then -8 else if x = 495874699877 then -1 else if x = 1919907699 then -2 else if x = 6578553 then -3 else if x = 495672455781 then -4 else if x = 418430678629 then -5 else if x = 1836020325 then -6 else -22
def sgn (x : Nat) : Int32 := if x = 40 then -18 else if x = 41 then -19 else if x = 42 then -15 else if x = 43 then -13 else if x = 45 then -14 else if x = 59 then -20 else if x = 60 then -11 else if x = 61 then -12 else -22
/-- where the token begins, ends, and what it is, read from p on -/
def lb (c : Nat → Nat) (sz p : Nat) : Nat := run (isW c) sz p
def le (c : Nat → Nat) (sz p : Nat) : Nat := if lb c sz p < sz then (if isL c (lb c sz p) = true then run (isL c) sz (lb c sz p) else if isD c (lb c sz p) = true then run (isD c) sz (lb c sz p) else lb c sz p + 1) else lb c sz p
def lk (c : Nat → Nat) (sz p : Nat) : Int32 := if lb c sz p < sz then (if isL c (lb c sz p) = true then (if run (isL c) sz (lb c sz p) - lb c sz p ≤ 5 then wcd (pkN c (lb c sz p) (run (isL c) sz (lb c sz p) - lb c sz p)) else -22) else if isD c (lb c sz p) = true then (if run (isD c) sz (lb c sz p) - lb c sz p ≤ 4 then Int32.ofNat (nvN c (lb c sz p) (run (isD c) sz (lb c sz p) - lb c sz p)) else -22) else sgn (c (lb c sz p))) else -21
theorem lb_bw {c : Nat → Nat} {sz p : Nat} (h : p ≤ sz) : p ≤ lb c sz p ∧ lb c sz p ≤ sz := by
  obtain ⟨a1, a2, a3, a4⟩ := run_all (P := isW c) (sz := sz) (sz - p) p (by omega)
  exact ⟨a1, a2⟩
theorem le_bw {c : Nat → Nat} {sz p : Nat} (h : p ≤ sz) : lb c sz p ≤ le c sz p ∧ le c sz p ≤ sz ∧ (lb c sz p < sz → lb c sz p < le c sz p) := by
  obtain ⟨b1, b2⟩ := lb_bw (c := c) h
  unfold le
  by_cases h1 : lb c sz p < sz
  · rw [if_pos h1]
    by_cases h2 : isL c (lb c sz p) = true
    · rw [if_pos h2]
      obtain ⟨a1, a2, a3, a4⟩ := run_all (P := isL c) (sz := sz) (sz - lb c sz p - 1) (lb c sz p + 1) (by omega)
      rw [run_yes h1 h2]
      omega
    · rw [if_neg h2]
      by_cases h3 : isD c (lb c sz p) = true
      · rw [if_pos h3]
        obtain ⟨a1, a2, a3, a4⟩ := run_all (P := isD c) (sz := sz) (sz - lb c sz p - 1) (lb c sz p + 1) (by omega)
        rw [run_yes h1 h3]
        omega
      · rw [if_neg h3]; omega
  · rw [if_neg h1]; omega
theorem nvN_le {c : Nat → Nat} {b : Nat} : ∀ {n : Nat}, (∀ i, i < n → c (b + i) ≤ 57) → nvN c b n < 10 ^ n
  | 0, _ => by show (0 : Nat) < 1; decide
  | n + 1, h => by
    have h1 := nvN_le (c := c) (b := b) (n := n) (fun i hi => h i (by omega))
    have h2 := h n (by omega)
    unfold nvN
    rw [Nat.pow_succ]
    omega
/-- a byte of the class's tape, and the model's -/
theorem byte_v {x : Int32} (h : bw x 0 255) : (x.toInt8.toInt32).toInt = if x.toInt < 128 then x.toInt else x.toInt - 256 := by
  unfold bw at h
  rw [Int8.toInt_toInt32, Int32.toInt_toInt8]
  split
  · exact Int.bmod_eq_of_le (by omega) (by omega)
  · rw [show x.toInt = (x.toInt - 256) + (256 : Nat) from by omega]
    rw [show ((2 : Nat) ^ 8 : Nat) = 256 from rfl]
    rw [Int.add_bmod_right]
    rw [show (x.toInt - 256 + (256 : Nat)) - 256 = x.toInt - 256 from by omega]
    exact Int.bmod_eq_of_le (by omega) (by omega)
