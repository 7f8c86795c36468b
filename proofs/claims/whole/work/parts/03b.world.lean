/-! ===== the abstract heap: ints, longs, references by address and place; what kind each cell is; how many were made ===== -/
abbrev Ah : Type := (Nat → Nat → Int32) × (Nat → Nat → Int64) × (Nat → Nat → Option Nat) × (Nat → Nat × Nat) × Nat
def gI (h : Ah) (a : Nat) : Nat → Int32 := h.1 a
def gL (h : Ah) (a : Nat) : Nat → Int64 := h.2.1 a
def gR (h : Ah) (a : Nat) : Nat → Option Nat := h.2.2.1 a
def kd (h : Ah) (a : Nat) : Nat × Nat := h.2.2.2.1 a
def nc (h : Ah) : Nat := h.2.2.2.2
def up {α : Type} (f : Nat → α) (k : Nat) (x : α) : Nat → α := fun j => if j = k then x else f j
theorem up_self {α : Type} (f : Nat → α) (k : Nat) (x : α) : up f k x k = x := if_pos rfl
theorem up_ne {α : Type} (f : Nat → α) {k j : Nat} (x : α) (h : j ≠ k) : up f k x j = f j := if_neg h
theorem up_ap {α : Type} (f : Nat → α) (k j : Nat) (x : α) : up f k x j = if j = k then x else f j := rfl
def rI (h : Ah) (a : Nat) (f : Nat → Int32) : Ah := (up h.1 a f, h.2)
def rL (h : Ah) (a : Nat) (f : Nat → Int64) : Ah := (h.1, up h.2.1 a f, h.2.2)
def rR (h : Ah) (a : Nat) (f : Nat → Option Nat) : Ah := (h.1, h.2.1, up h.2.2.1 a f, h.2.2.2)
/-- a cell more, of a kind, all 0 -/
def al (h : Ah) (k : Nat × Nat) : Ah := (up h.1 (32 + h.2.2.2.2) (fun _ => 0), up h.2.1 (32 + h.2.2.2.2) (fun _ => 0), up h.2.2.1 (32 + h.2.2.2.2) (fun _ => none), up h.2.2.2.1 (32 + h.2.2.2.2) k, h.2.2.2.2 + 1)
theorem gI_rI (h : Ah) (a b : Nat) (f : Nat → Int32) : gI (rI h a f) b = if b = a then f else gI h b := rfl
theorem gI_rL (h : Ah) (a b : Nat) (f : Nat → Int64) : gI (rL h a f) b = gI h b := rfl
theorem gI_rR (h : Ah) (a b : Nat) (f : Nat → Option Nat) : gI (rR h a f) b = gI h b := rfl
theorem gL_rI (h : Ah) (a b : Nat) (f : Nat → Int32) : gL (rI h a f) b = gL h b := rfl
theorem gL_rL (h : Ah) (a b : Nat) (f : Nat → Int64) : gL (rL h a f) b = if b = a then f else gL h b := rfl
theorem gL_rR (h : Ah) (a b : Nat) (f : Nat → Option Nat) : gL (rR h a f) b = gL h b := rfl
theorem gR_rI (h : Ah) (a b : Nat) (f : Nat → Int32) : gR (rI h a f) b = gR h b := rfl
theorem gR_rL (h : Ah) (a b : Nat) (f : Nat → Int64) : gR (rL h a f) b = gR h b := rfl
theorem gR_rR (h : Ah) (a b : Nat) (f : Nat → Option Nat) : gR (rR h a f) b = if b = a then f else gR h b := rfl
theorem kd_rI (h : Ah) (a b : Nat) (f : Nat → Int32) : kd (rI h a f) b = kd h b := rfl
theorem kd_rL (h : Ah) (a b : Nat) (f : Nat → Int64) : kd (rL h a f) b = kd h b := rfl
theorem kd_rR (h : Ah) (a b : Nat) (f : Nat → Option Nat) : kd (rR h a f) b = kd h b := rfl
theorem nc_rI (h : Ah) (a : Nat) (f : Nat → Int32) : nc (rI h a f) = nc h := rfl
theorem nc_rL (h : Ah) (a : Nat) (f : Nat → Int64) : nc (rL h a f) = nc h := rfl
theorem nc_rR (h : Ah) (a : Nat) (f : Nat → Option Nat) : nc (rR h a f) = nc h := rfl
theorem gI_al (h : Ah) (k : Nat × Nat) (b : Nat) : gI (al h k) b = if b = 32 + nc h then (fun _ => 0) else gI h b := rfl
theorem gL_al (h : Ah) (k : Nat × Nat) (b : Nat) : gL (al h k) b = if b = 32 + nc h then (fun _ => 0) else gL h b := rfl
theorem gR_al (h : Ah) (k : Nat × Nat) (b : Nat) : gR (al h k) b = if b = 32 + nc h then (fun _ => none) else gR h b := rfl
theorem kd_al (h : Ah) (k : Nat × Nat) (b : Nat) : kd (al h k) b = if b = 32 + nc h then k else kd h b := rfl
theorem nc_al (h : Ah) (k : Nat × Nat) : nc (al h k) = nc h + 1 := rfl
/-- the launch's part: how many cells were there; classes and slots; array classes by their tag; the cells of old that are used; the script -/
abbrev Gd : Type := Nat × va_G × (Nat → ClassId) × (Nat → Nat) × Nat × (Nat → Int32)
def ad (G : Gd) (a : Nat) : Nat := if a < 32 then G.2.2.2.1 a else G.1 + (a - 32)
def cv (G : Gd) (v : Value) : Value := match v with
  | .ref a => .ref (ad G a)
  | w => w
def cr (G : Gd) (o : Option Nat) : Value := va_rf (o.map (ad G))
theorem cv_rf (G : Gd) (o : Option Nat) : cv G (va_rf o) = cr G o := by cases o <;> rfl
theorem cv_cat (G : Gd) (v : Value) : (cv G v).category = v.category := by cases v <;> rfl
theorem cv_cats (G : Gd) (l : List Value) : ((l.map (cv G)).map fun v => v.category) = l.map fun v => v.category := by
  rw [List.map_map]
  exact List.map_congr_left fun v _ => cv_cat G v
abbrev cls : List vw_C := [(RX0, TX0, 7), (RX1, TX1, 2), (RX2, TX2, 3), (RX3, TX3, 2), (RX4, TX4, 2), (RX5, TX5, 2), (RX6, TX6, 2), (RX7, TX7, 3), (RX8, TX8, 8), (RX9, TX9, 3), (RX10, TX10, 17), (RX11, TX11, 10), (RX12, TX12, 49)]
/-- which fields of a class are references: 1 -/
def fty (c : Nat) : List Nat := match c with
  | 0 => [0, 1, 1, 1, 1, 1, 1]
  | 2 => [0, 1, 0]
  | 7 => [0, 0, 1]
  | 8 => [1, 0, 1, 0, 0, 0, 0, 0]
  | 9 => [0, 0, 1]
  | 10 => [1, 1, 1, 1, 1, 1, 1, 1, 1, 0, 0, 0, 0, 0, 0, 0, 0]
  | 11 => [1, 1, 1, 0, 1, 0, 1, 1, 1, 1]
  | 12 => (List.range 49).map fun k => match parseFieldDescriptor (TX12 k).2.2.1 with
    | some (.array _) => 1
    | _ => 0
  | _ => [0, 0]
def fv (G : Gd) (h : Ah) (a : Nat) (ts : List Nat) : List Value := (List.range ts.length).map fun k => if ts.getD k 0 = 0 then Value.int (gI h a k) else cr G (gR h a k)
def ent (G : Gd) (h : Ah) (a : Nat) : va_E := match (kd h a).1 with
  | 0 => .inr ((kd h a).2, fv G h a (fty (kd h a).2))
  | 1 => .inl (G.2.2.1 1, (kd h a).2, .inl (gI h a))
  | 2 => .inl (G.2.2.1 2, (kd h a).2, .inr (.inl (gL h a)))
  | 3 => .inl (G.2.2.1 3, (kd h a).2, .inl (gI h a))
  | t => .inl (G.2.2.1 t, (kd h a).2, .inr (.inr (.inr (.inr (fun j => (gR h a j).map (ad G))))))
def tysL (G : Gd) : List (ClassId × FieldType) := [(G.2.2.1 1, .int), (G.2.2.1 1, .int), (G.2.2.1 2, .long), (G.2.2.1 3, .byte), (G.2.2.1 4, .object RX6), (G.2.2.1 5, .object RX2), (G.2.2.1 6, .object RX7), (G.2.2.1 7, .array .int)]
def wl (G : Gd) (h : Ah) : va_W := (List.range (nc h)).map fun k => (G.1 + k, ent G h (32 + k))
def Hp (G : Gd) (h : Ah) (H : Heap) : Prop := H.size = G.1 + nc h ∧ (∀ a, (kd h a).1 ≠ 9 → 32 ≤ a ∧ a < 32 + nc h) ∧ va_P G.2.1 cls (wl G h) H
def zA (G : Gd) : Nat → Prop := fun q => G.1 ≤ q
theorem wl_at (G : Gd) (h : Ah) {k : Nat} (hk : k < nc h) : (wl G h)[k]? = some (G.1 + k, ent G h (32 + k)) := by
  unfold wl
  rw [List.getElem?_map, List.getElem?_range hk]
  rfl
theorem wl_of {G : Gd} {h : Ah} {k : Nat} {q : Nat × va_E} (hk : (wl G h)[k]? = some q) : k < nc h ∧ q = (G.1 + k, ent G h (32 + k)) := by
  have h1 : k < (wl G h).length := (List.getElem?_eq_some_iff.mp hk).1
  have h2 : k < nc h := by simpa [wl] using h1
  rw [wl_at G h h2] at hk
  exact ⟨h2, (Option.some.inj hk).symm⟩
theorem wl_len (G : Gd) (h : Ah) : (wl G h).length = nc h := by simp [wl]
theorem ad_big (G : Gd) {a : Nat} (h : 32 ≤ a) : ad G a = G.1 + (a - 32) := if_neg (by omega)
theorem ad_new (G : Gd) (k : Nat) : ad G (32 + k) = G.1 + k := by rw [ad_big G (by omega)]; congr 1; omega
theorem Hp.get {G : Gd} {h : Ah} {H : Heap} (hH : Hp G h H) {a : Nat} (ha : (kd h a).1 ≠ 9) : (wl G h)[a - 32]? = some (ad G a, ent G h a) := by
  obtain ⟨h1, h2⟩ := hH.2.1 a ha
  rw [wl_at G h (by omega), ad_big G h1]
  congr 3
  omega
theorem wl_D (G : Gd) (h : Ah) : va_D (zA G) (wl G h) := by
  refine ⟨fun i j p q hi hj e => ?_, fun k q hk => ?_⟩
  · rw [(wl_of hi).2, (wl_of hj).2] at e
    have e' : G.1 + i = G.1 + j := e
    omega
  · rw [(wl_of hk).2]
    exact Nat.le_add_right _ _
/-- one cell is another -/
theorem wl_set {G : Gd} {h h' : Ah} {a : Nat} {x : Nat} {e : va_E} (ha : 32 ≤ a) (ha2 : a < 32 + nc h) (hx : x = ad G a) (he : ent G h' a = e) (hn : nc h' = nc h) (ho : ∀ b, b ≠ a → ent G h' b = ent G h b) : (wl G h).set (a - 32) (x, e) = wl G h' := by
  subst hx
  apply List.ext_getElem?
  intro k
  by_cases hk : k < nc h
  · rw [wl_at G h' (by omega)]
    by_cases hka : k = a - 32
    · subst hka
      rw [List.getElem?_set_self (by rw [wl_len]; exact hk), ad_big G ha, ← he]
      congr 3
      omega
    · rw [List.getElem?_set_ne (Ne.symm hka), wl_at G h hk, ho (32 + k) (by omega)]
  · rw [List.getElem?_eq_none (by rw [List.length_set, wl_len]; omega), List.getElem?_eq_none (by rw [wl_len]; omega)]
theorem Hp.put {G : Gd} {h h' : Ah} {H H' : Heap} {a : Nat} {e : va_E} (hH : Hp G h H) (ha : (kd h a).1 ≠ 9) (hP : va_P G.2.1 cls ((wl G h).set (a - 32) (ad G a, e)) H') (hz : H'.size = H.size) (he : ent G h' a = e) (hn : nc h' = nc h) (hk : ∀ b, kd h' b = kd h b) (ho : ∀ b, b ≠ a → ent G h' b = ent G h b) : Hp G h' H' := by
  obtain ⟨h1, h2⟩ := hH.2.1 a ha
  refine ⟨by rw [hz, hn]; exact hH.1, fun b hb => ?_, ?_⟩
  · rw [hk b] at hb
    rw [hn]
    exact hH.2.1 b hb
  · rw [wl_set h1 h2 rfl he hn ho] at hP
    exact hP
theorem ent_cong (G : Gd) {h h' : Ah} {b : Nat} (h1 : kd h' b = kd h b) (h2 : gI h' b = gI h b) (h3 : gL h' b = gL h b) (h4 : gR h' b = gR h b) : ent G h' b = ent G h b := by
  unfold ent fv
  rw [h1, h2, h3, h4]
theorem ent_rI (G : Gd) (h : Ah) (a b : Nat) (f : Nat → Int32) (hb : b ≠ a) : ent G (rI h a f) b = ent G h b := ent_cong G rfl (if_neg hb) rfl rfl
theorem ent_rL (G : Gd) (h : Ah) (a b : Nat) (f : Nat → Int64) (hb : b ≠ a) : ent G (rL h a f) b = ent G h b := ent_cong G rfl rfl (if_neg hb) rfl
theorem ent_rR (G : Gd) (h : Ah) (a b : Nat) (f : Nat → Option Nat) (hb : b ≠ a) : ent G (rR h a f) b = ent G h b := ent_cong G rfl rfl rfl (if_neg hb)
theorem ent_al (G : Gd) (h : Ah) (k : Nat × Nat) (b : Nat) (hb : b ≠ 32 + nc h) : ent G (al h k) b = ent G h b := ent_cong G (if_neg hb) (if_neg hb) (if_neg hb) (if_neg hb)
theorem wl_al (G : Gd) (h : Ah) (k : Nat × Nat) : wl G (al h k) = wl G h ++ [(G.1 + nc h, ent G (al h k) (32 + nc h))] := by
  apply List.ext_getElem?
  intro j
  by_cases hj : j < nc h
  · rw [wl_at G _ (by rw [nc_al]; omega), List.getElem?_append_left (by rw [wl_len]; exact hj), wl_at G h hj, ent_al G h k _ (by omega)]
  · by_cases hj2 : j = nc h
    · subst hj2
      rw [wl_at G _ (by rw [nc_al]; omega), List.getElem?_append_right (by rw [wl_len]; omega), wl_len, Nat.sub_self]
      rfl
    · rw [List.getElem?_eq_none (by rw [wl_len, nc_al]; omega), List.getElem?_eq_none (by rw [List.length_append, wl_len]; simp; omega)]
/-- a cell more -/
theorem Hp.new {G : Gd} {h : Ah} {H H' : Heap} {k : Nat × Nat} (hH : Hp G h H) (hz : H'.size = H.size + 1) (ho : ∀ q : Nat, q < H.size → H'[q]? = H[q]?) (he : va_at G.2.1 cls (G.1 + nc h, ent G (al h k) (32 + nc h)) H') : Hp G (al h k) H' := by
  refine ⟨by rw [hz, hH.1, nc_al]; omega, fun b hb => ?_, ?_⟩
  · rw [kd_al] at hb
    rw [nc_al]
    by_cases hbn : b = 32 + nc h
    · omega
    · rw [if_neg hbn] at hb
      have := hH.2.1 b hb
      omega
  · rw [wl_al]
    refine va_P.app (hH.2.2.kept fun j q hq => ho q.1 ((hH.2.2 j q hq).lt)) fun j q hq => ?_
    have h0 : j < 1 := (List.getElem?_eq_some_iff.mp hq).1
    rw [show j = 0 by omega] at hq
    cases hq
    exact he
theorem va_S.new {A : Nat → Prop} {H0 H H1 : Heap} {locs : List Loc} (h : va_S A H0 H locs) (hz : H1.size = H.size + 1) (ho : ∀ q : Nat, q < H.size → H1[q]? = H[q]?) : va_S A H0 H1 locs :=
  ⟨Nat.le_trans h.1 (by omega), fun x h1 h2 => (ho x (Nat.lt_of_lt_of_le h1 h.1)).trans (h.2.1 x h1 h2), h.2.2⟩
