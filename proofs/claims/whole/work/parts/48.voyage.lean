/-! ===== the pure layer: the voyage in pure functions ===== -/
/-- men; rows of each; the rule's share (day, store, many, ahead, man); need; row; more; ration; miles; rain; who drinks; who hides -/
abbrev VP : Type := Nat × (Nat → Int32) × (Int32 → Int32 → Int32 → Int32 → Nat → Int32) × ((Nat → Int32) → Int32) × ((Nat → Int32) → Int32) × Int32 × Int32 × Int32 × (Nat → Int32) × (Nat → Bool) × Int32
abbrev vmn (P : VP) : Nat := P.1
abbrev vrw (P : VP) : Nat → Int32 := P.2.1
abbrev vsh (P : VP) : Int32 → Int32 → Int32 → Int32 → Nat → Int32 := P.2.2.1
abbrev vnd (P : VP) : (Nat → Int32) → Int32 := P.2.2.2.1
abbrev vro (P : VP) : (Nat → Int32) → Int32 := P.2.2.2.2.1
abbrev vmo (P : VP) : Int32 := P.2.2.2.2.2.1
abbrev vra (P : VP) : Int32 := P.2.2.2.2.2.2.1
abbrev vmi (P : VP) : Int32 := P.2.2.2.2.2.2.2.1
abbrev vrn (P : VP) : Nat → Int32 := P.2.2.2.2.2.2.2.2.1
abbrev vkb (P : VP) : Nat → Bool := P.2.2.2.2.2.2.2.2.2.1
abbrev vhid (P : VP) : Int32 := P.2.2.2.2.2.2.2.2.2.2
def kdb (P : VP) (m : Nat) (x : Int32) : Bool := if x ≤ 0 then false else vkb P m
def vcnt (P : VP) (s : Nat → Int32) : Nat → Int32
  | 0 => 0
  | m + 1 => if kdb P m (s m) = true then vcnt P s m + 1 else vcnt P s m
def vliv (s : Nat → Int32) : Nat → Int32
  | 0 => 0
  | m + 1 => if s m ≤ 0 then vliv s m else vliv s m + 1
def gmin (l w x : Int32) : Int32 := if x < (if w < l then w else l) then x else (if w < l then w else l)
/-- left, water, ahead -/
def dk (P : VP) (d : Int32) (s : Nat → Int32) (w0 : Int32) : Nat → Int32 × Int32 × Int32
  | 0 => (vra P, w0, 0)
  | m + 1 => if kdb P m (s m) = true then
      ((dk P d s w0 m).1 - gmin (dk P d s w0 m).1 (dk P d s w0 m).2.1 (vsh P d (s m) (vcnt P s (vmn P)) (dk P d s w0 m).2.2 m),
       (dk P d s w0 m).2.1 - gmin (dk P d s w0 m).1 (dk P d s w0 m).2.1 (vsh P d (s m) (vcnt P s (vmn P)) (dk P d s w0 m).2.2 m),
       (dk P d s w0 m).2.2 + 1)
    else dk P d s w0 m
def gotv (P : VP) (d : Int32) (s : Nat → Int32) (w0 : Int32) (m : Nat) : Int32 :=
  if kdb P m (s m) = true then gmin (dk P d s w0 m).1 (dk P d s w0 m).2.1 (vsh P d (s m) (vcnt P s (vmn P)) (dk P d s w0 m).2.2 m) else 0
def fct (P : VP) (d : Int32) (s : Nat → Int32) (w0 : Int32) (m : Nat) : Nat → Int32 := fun j =>
  if j = 0 then s m else if j = 1 then vrw P m else if j = 2 then d else if j = 3 then gotv P d s w0 m else if j = 4 then vcnt P s (vmn P) else vmo P
/-- rowed, hidden -/
def rk (P : VP) (d : Int32) (s : Nat → Int32) (w0 r0 l0 : Int32) : Nat → Int32 × Int32
  | 0 => (r0, l0)
  | m + 1 => if s m ≤ 0 then rk P d s w0 r0 l0 m else
      ((rk P d s w0 r0 l0 m).1 + cl (vro P (fct P d s w0 m)) 99,
       if Int32.ofNat m = vhid P then (if 0 < (rk P d s w0 r0 l0 m).2 then (rk P d s w0 r0 l0 m).2 - 1 else (rk P d s w0 r0 l0 m).2) else (rk P d s w0 r0 l0 m).2)
def bes (P : VP) (d : Int32) (s : Nat → Int32) (w0 r0 l0 : Int32) (m : Nat) : Int32 :=
  if Int32.ofNat m = vhid P then (if 0 < (rk P d s w0 r0 l0 m).2 then 1 else 0) else 0
def nxs (P : VP) (d : Int32) (s : Nat → Int32) (w0 r0 l0 : Int32) (m : Nat) : Int32 :=
  if s m ≤ 0 then s m else cl (s m + (gotv P d s w0 m + bes P d s w0 r0 l0 m) - cl (vnd P (fct P d s w0 m)) 20) 99
/-- stores, keg, rowed, landed, hidden -/
abbrev VS : Type := (Nat → Int32) × Int32 × Int32 × Int32 × Int32
def von (P : VP) (V : VS) : Bool := if V.2.2.2.1 = -1 then (if vliv V.1 (vmn P) ≤ 0 then false else true) else false
def wtr (P : VP) (d : Nat) (V : VS) : Int32 := if V.2.1 + vrn P d < 9999 then V.2.1 + vrn P d else 9999
def vstep (P : VP) (d : Nat) (V : VS) : VS :=
  if von P V = true then
    (nxs P (Int32.ofNat d) V.1 (wtr P d V) V.2.2.1 V.2.2.2.2,
     (dk P (Int32.ofNat d) V.1 (wtr P d V) (vmn P)).2.1,
     (rk P (Int32.ofNat d) V.1 (wtr P d V) V.2.2.1 V.2.2.2.2 (vmn P)).1,
     (if (rk P (Int32.ofNat d) V.1 (wtr P d V) V.2.2.1 V.2.2.2.2 (vmn P)).1 < vmi P then -1 else if vliv (nxs P (Int32.ofNat d) V.1 (wtr P d V) V.2.2.1 V.2.2.2.2) (vmn P) ≤ 0 then -1 else Int32.ofNat d),
     (rk P (Int32.ofNat d) V.1 (wtr P d V) V.2.2.1 V.2.2.2.2 (vmn P)).2)
  else V
def vgot (P : VP) (d : Nat) (V : VS) (m : Nat) : Int32 := if von P V = true then gotv P (Int32.ofNat d) V.1 (wtr P d V) m else 0
def trj (P : VP) : Nat → Nat → VS → VS
  | 0, _, V => V
  | e + 1, d, V => trj P e (d + 1) (vstep P d V)
theorem vliv_cong {s s' : Nat → Int32} : ∀ {n : Nat}, (∀ m, m < n → s m = s' m) → vliv s n = vliv s' n
  | 0, _ => rfl
  | n + 1, h => by
    unfold vliv
    rw [h n (by omega), vliv_cong (n := n) (fun m hm => h m (by omega))]
theorem vliv_bw {s : Nat → Int32} : ∀ {n : Nat}, n < 100 → 0 ≤ (vliv s n).toInt ∧ (vliv s n).toInt ≤ n
  | 0, _ => ⟨show (0 : Int) ≤ (0 : Int32).toInt by decide, show (0 : Int32).toInt ≤ 0 by decide⟩
  | n + 1, h => by
    obtain ⟨h1, h2⟩ := vliv_bw (s := s) (n := n) (by omega)
    unfold vliv
    split
    · omega
    · have e : (vliv s n + 1).toInt = (vliv s n).toInt + 1 := p_add (b := 1) (by show _ ≤ _ + (1 : Int); omega) (by show _ + (1 : Int) < _; omega)
      omega
theorem vcnt_bw {P : VP} {s : Nat → Int32} : ∀ {n : Nat}, n < 100 → 0 ≤ (vcnt P s n).toInt ∧ (vcnt P s n).toInt ≤ n
  | 0, _ => ⟨show (0 : Int) ≤ (0 : Int32).toInt by decide, show (0 : Int32).toInt ≤ 0 by decide⟩
  | n + 1, h => by
    obtain ⟨h1, h2⟩ := vcnt_bw (P := P) (s := s) (n := n) (by omega)
    unfold vcnt
    split
    · have e : (vcnt P s n + 1).toInt = (vcnt P s n).toInt + 1 := p_add (b := 1) (by show _ ≤ _ + (1 : Int); omega) (by show _ + (1 : Int) < _; omega)
      omega
    · omega
theorem vcnt_pos {P : VP} {s : Nat → Int32} {m : Nat} : ∀ {n : Nat}, n < 100 → m < n → kdb P m (s m) = true → 1 ≤ (vcnt P s n).toInt
  | 0, _, h, _ => absurd h (by omega)
  | n + 1, h, h2, h3 => by
    obtain ⟨b1, b2⟩ := vcnt_bw (P := P) (s := s) (n := n) (by omega)
    have e : (vcnt P s n + 1).toInt = (vcnt P s n).toInt + 1 := p_add (b := 1) (by show _ ≤ _ + (1 : Int); omega) (by show _ + (1 : Int) < _; omega)
    unfold vcnt
    by_cases hm : m = n
    · subst hm
      rw [if_pos h3]; omega
    · have := vcnt_pos (P := P) (s := s) (m := m) (n := n) (by omega) (by omega) h3
      split
      · omega
      · exact this
theorem gmin_le {l w x : Int32} (hl : 0 ≤ l.toInt) (hw : 0 ≤ w.toInt) (hx : 0 ≤ x.toInt) : 0 ≤ (gmin l w x).toInt ∧ (gmin l w x).toInt ≤ l.toInt ∧ (gmin l w x).toInt ≤ w.toInt := by
  unfold gmin
  by_cases h1 : w < l
  · rw [if_pos h1]
    rw [fa_lt] at h1
    by_cases h2 : x < w
    · rw [if_pos h2]; rw [fa_lt] at h2; omega
    · rw [if_neg h2]; omega
  · rw [if_neg h1]
    rw [fa_lt] at h1
    by_cases h2 : x < l
    · rw [if_pos h2]; rw [fa_lt] at h2; omega
    · rw [if_neg h2]; omega
theorem gmin_m {l w x : Int32} : (if w ≤ (if l ≤ x then l else x) then w else (if l ≤ x then l else x)) = gmin l w x := by
  unfold gmin
  simp only [fa_lt, fa_le]
  by_cases a1 : l.toInt ≤ x.toInt
  · rw [if_pos a1]
    by_cases a2 : w.toInt < l.toInt
    · rw [if_pos a2, if_pos (show w.toInt ≤ l.toInt by omega), if_neg (by omega)]
    · rw [if_neg a2, if_neg (show ¬ x.toInt < l.toInt by omega)]
      by_cases a3 : w.toInt ≤ l.toInt
      · rw [if_pos a3]; exact p_eq (by omega)
      · rw [if_neg a3]
  · rw [if_neg a1]
    by_cases a2 : w.toInt < l.toInt
    · rw [if_pos a2]
      by_cases a3 : w.toInt ≤ x.toInt
      · rw [if_pos a3, if_neg (by omega)]
      · rw [if_neg a3, if_pos (by omega)]
    · rw [if_neg a2, if_pos (show x.toInt < l.toInt by omega)]
      by_cases a3 : w.toInt ≤ x.toInt
      · omega
      · rw [if_neg a3]
