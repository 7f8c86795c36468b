/-! ===== the words that every method may use; what lies outside the made cells; the frame of a method ===== -/
theorem ws_tbl {w : Cond} (h : w ∈ WS) : w ∈ lw_tbl := (List.mem_filter.mp h).1
theorem ws_good {ws : List Cond} (h : ∀ w ∈ ws, w ∈ WS) : GoodIn WS ws := fun w hw => ⟨h w hw, good_of_word (List.mem_filter.mp (h w hw)).2⟩
def xl0 (j : Nat) : Int32 := [1, 0, 0, 0].getD j 0
def xl1 (j : Nat) : Int32 := [12, 999, 99, 9999].getD j 0
def sLen : List Nat := [4, 3, 2, 3, 3, 5, 4, 3, 5, 5, 4]
def sByt : List (List Int32) := [[110, 101, 101, 100], [114, 111, 119], [111, 114], [97, 110, 100], [110, 111, 116], [115, 116, 111, 114, 101], [114, 111, 119, 115], [100, 97, 121], [115, 104, 97, 114, 101], [97, 108, 105, 118, 101], [109, 111, 114, 101]]
def sIx (i : Nat) : Nat := [75, 81, 83, 85, 87, 89, 91, 93, 95, 97, 99].getD i 0
def sTx (i : Nat) : String := ["need", "row", "or", "and", "not", "store", "rows", "day", "share", "alive", "more"].getD i ""
def nwL : List Cond := [.castable RX1 RX5, .castable RX3 RX4, .castable RX5 RX6, .castable RX4 RX6, .castable RX3 RX6, .castable RX9 RX6, .castable RX1 RX6, .methodLinkNest RX11 23 yX8_init RX11, .methodLinkNest RX11 63 yX7_init RX11]
def ncL : List (String × String) := [(RX6, RX5), (RX4, RX5), (RX3, RX5), (RX9, RX5), (RX6, RX4), (RX5, RX4), (RX9, RX4), (RX1, RX4), (RX6, RX3), (RX5, RX3), (RX4, RX3), (RX9, RX3), (RX1, RX3), (RX6, RX9), (RX5, RX9), (RX4, RX9), (RX3, RX9), (RX1, RX9), (RX6, RX1), (RX5, RX1), (RX4, RX1), (RX3, RX1), (RX9, RX1)]
def zAO (U : State) : Prop := (Cond.arrayOver (.array .int)).before #[] U = true
theorem zAO.moved {u U : State} (hvm : u.vm.Alike U.vm) (h : zAO u) : zAO U := by
  have e := Cond.arrayOver_setVmC (args := #[]) (s := u) hvm (.array .int)
  have h2 : (Cond.arrayOver (.array .int)).before #[] (u.setVm U.vm) = true := e.trans h
  exact h2
/-- what is outside: the two tables, the texts, the words that are no good words -/
def Ex (G : Gd) (U : State) (H : Heap) : Prop :=
  (va_Z RX11 "BOAT_LEAST" "[I" (.ref (ad G 0)) (zA G) U H ∧ va_T .int (ad G 0) 4 (fun j => .int (xl0 j)) (zA G) U H) ∧
  (va_Z RX11 "BOAT_MOST" "[I" (.ref (ad G 1)) (zA G) U H ∧ va_T .int (ad G 1) 4 (fun j => .int (xl1 j)) (zA G) U H) ∧
  va_Z RJ0 "COMPACT_STRINGS" "Z" (.int 1) (zA G) U H ∧
  (va_Z RJ3 "SIOOBE_FORMATTER" "Ljava/util/function/BiFunction;" .null (zA G) U H ∨ va_Z RJ3 "SIOOBE_FORMATTER" "Ljava/util/function/BiFunction;" (.ref (ad G 24)) (zA G) U H) ∧
  vk_S 11 sLen sByt (fun i => ad G (2 + i)) (fun i => ad G (13 + i)) (zA G) U H ∧
  (∀ i, i < 11 → vk_R RX8 (sIx i) (sTx i) (ad G (2 + i)) U) ∧
  (∀ w ∈ nwL, va_Nw w U) ∧ (∀ q ∈ ncL, va_Nc q.1 q.2 U) ∧ va_AO RX6 U ∧ va_AO RX2 U ∧ va_AO RX7 U ∧ zAO U ∧ va_T .int (ad G 25) G.2.2.2.2.1 (fun j => .int (G.2.2.2.2.2 j)) (zA G) U H
theorem Ex.gen {G : Gd} {u U : State} {H H1 : Heap} (hvm : u.vm.Alike U.vm) (hq : ∀ a : Nat, a < H.size → ¬ zA G a → H1[a]? = H[a]?) (hR : ∀ i, i < 11 → vk_R RX8 (sIx i) (sTx i) (ad G (2 + i)) u → vk_R RX8 (sIx i) (sTx i) (ad G (2 + i)) U) (hN : ∀ w ∈ nwL, va_Nw w u → va_Nw w U) (h : Ex G u H) : Ex G U H1 := by
  obtain ⟨⟨a1, a2⟩, ⟨b1, b2⟩, c, d, e, f, g, i, j1, j2, j3, k, x⟩ := h
  refine ⟨⟨(a1.moved hvm).kept hq, (a2.moved hvm).kept hq⟩, ⟨(b1.moved hvm).kept hq, (b2.moved hvm).kept hq⟩, (c.moved hvm).kept hq, ?_, (e.moved hvm).kept hq, fun x hx => hR x hx (f x hx), fun w hw => hN w hw (g w hw), fun q hq => (i q hq).moved hvm, j1.moved hvm, j2.moved hvm, j3.moved hvm, k.moved hvm, (x.moved hvm).kept hq⟩
  rcases d with d | d
  · exact Or.inl ((d.moved hvm).kept hq)
  · exact Or.inr ((d.moved hvm).kept hq)
theorem Ex.warm {G : Gd} {s U : State} {H H1 : Heap} (hW : s.WarmedH U.vm) (hq : ∀ a : Nat, a < H.size → ¬ zA G a → H1[a]? = H[a]?) (h : Ex G s H) : Ex G U H1 := by
  refine Ex.gen hW.alike hq (fun i _ q => q.warm hW) (fun w hw q => ?_) h
  simp only [nwL, List.mem_cons, List.not_mem_nil, or_false] at hw
  rcases hw with rfl | rfl | rfl | rfl | rfl | rfl | rfl | rfl | rfl
  · exact va_Nw.warmC hW q
  · exact va_Nw.warmC hW q
  · exact va_Nw.warmC hW q
  · exact va_Nw.warmC hW q
  · exact va_Nw.warmC hW q
  · exact va_Nw.warmC hW q
  · exact va_Nw.warmC hW q
  · exact va_Nw.warmM hW q
  · exact va_Nw.warmM hW q
theorem Ex.same {G : Gd} {u U : State} {H : Heap} (hv : U.vm = u.vm) (h : Ex G u H) : Ex G U H := by
  refine Ex.gen (by rw [hv]; exact Vm.Alike.refl _) (fun _ _ _ => rfl) (fun i _ q => q.same hv) (fun w hw q => ?_) h
  simp only [nwL, List.mem_cons, List.not_mem_nil, or_false] at hw
  rcases hw with rfl | rfl | rfl | rfl | rfl | rfl | rfl | rfl | rfl <;> exact va_Nw.same rfl hv.symm q
/-- a method: its name, bytes, locals, answer -/
abbrev Mi : Type := MethodName × ByteArray × Nat × Option FieldType
/-- what a method's end may be -/
def RetI (M : Mi) (pc : Nat) (v : Option Value) : Prop :=
  (v = none ∧ decode M.2.1 pc = .ok (.return_, 1) ∧ M.2.2.2 = none) ∨ (∃ (x : Int32) (ty : FieldType), v = some (.int x) ∧ decode M.2.1 pc = .ok (.ireturn, 1) ∧ M.2.2.2 = some ty ∧ narrow ty (.int x) = .int x) ∨
  (∃ x : Int64, v = some (.long x) ∧ decode M.2.1 pc = .ok (.lreturn, 1) ∧ M.2.2.2 = some .long) ∨ (∃ o : Option Nat, v = some (va_rf o) ∧ decode M.2.1 pc = .ok (.areturn, 1) ∧ ((∃ n, M.2.2.2 = some (.object n)) ∨ ∃ t, M.2.2.2 = some (.array t)))
def Fr (G : Gd) (M : Mi) (d : Nat) (K : Ah → Option Value → Prop) (p : Program) (l : Launch) (e : Env) (R : Room) (s : State) (m : MethodId) (args : Array Value) (below : List Frame) (meth : Method) (c : Code) (Q : State → Prop) : Prop :=
  p.tables.exec = Jvm.exec ∧ c.code = M.2.1 ∧ c.maxLocals = M.2.2.1 ∧ s.vm.findClass M.1.cls = some m.cls ∧ (∀ w ∈ WS, w.before args s = true) ∧ meth.name = M.1.name ∧ (d ≤ R.frames ∧ 64 * d ≤ R.locals) ∧ va_K G.2.1 cls (tysL G) s ∧ Ex G s s.heap ∧ G.1 ≤ s.heap.size ∧
  (∀ (v : Option Value) (h' : Ah) (H : Heap) (locs : List Loc) (pc : Nat) (L : Array Slot), RetI M pc v → K h' v → Hp G h' H → va_S (zA G) s.heap H locs → W p l e R s m args below meth c H locs R.cells R.slots Q (F0 m pc L (v.map (cv G)).toList))
def Lc (G : Gd) (n : Nat) (ls : List (Option Value)) (L : Array Slot) : Prop := L.size = n ∧ lv_wf L ∧ ∀ (i : Nat) (v : Value), ls[i]? = some (some v) → L[i]? = some (.val (cv G v))
/-- FROM HERE THE METHOD ENDS AS K SAYS: at pc, with locals, stack and heap; c cells and n slots may still be made -/
def AW (G : Gd) (M : Mi) (d c n : Nat) (K : Ah → Option Value → Prop) (pc : Nat) (ls : List (Option Value)) (st : List Value) (h : Ah) : Prop :=
  ∀ (p : Program) (l : Launch) (e : Env) (R : Room) (s : State) (m : MethodId) (args : Array Value) (below : List Frame) (meth : Method) (cd : Code) (Q : State → Prop) (H : Heap) (locs : List Loc) (cells slots : Nat) (L : Array Slot),
    Fr G M d K p l e R s m args below meth cd Q → cells + c ≤ R.cells → slots + n ≤ R.slots → Hp G h H → va_S (zA G) s.heap H locs → Lc G M.2.2.1 ls L →
    W p l e R s m args below meth cd H locs cells slots Q (F0 m pc L (st.map (cv G)))
def PcA (G : Gd) (as : List Value) (h : Ah) : Array Value → State → Prop := va_Pc (as.map (cv G)) (fun U => Hp G h U.heap ∧ va_K G.2.1 cls (tysL G) U ∧ Ex G U U.heap)
def QcA (G : Gd) (K : Ah → Option Value → Prop) : Array Value → State → Outcome → State → Prop := fun _ st o t => (∃ (v : Option Value) (h' : Ah), o = .returned (v.map (cv G)) ∧ K h' v ∧ Hp G h' t.heap) ∧ va_F (zA G) st t
/-- THE METHOD Y, CALLED SO, ENDS AS K SAYS -/
def AM (G : Gd) (d c n : Nat) (Y : Mi) (as : List Value) (h : Ah) (K : Ah → Option Value → Prop) : Prop :=
  ∀ l : Launch, Met l Y.1 (Cond.code Y.1 Y.2.1 Y.2.2.1 Y.2.2.2 :: WS) { frames := d, cells := c, slots := n, locals := 64 * d } (PcA G as h) (QcA G K) c n (zA G)
theorem Hp.le {G : Gd} {h : Ah} {H : Heap} (hH : Hp G h H) : G.1 ≤ H.size := by rw [hH.1]; exact Nat.le_add_right _ _
theorem AW.mono {G : Gd} {M : Mi} {d c n : Nat} {K K' : Ah → Option Value → Prop} {pc : Nat} {ls : List (Option Value)} {st : List Value} {h : Ah} (hK : ∀ h' v, K h' v → K' h' v) (k : AW G M d c n K pc ls st h) : AW G M d c n K' pc ls st h := by
  intro p l e R s m args below meth cd Q H locs cells slots L F h1 h2 hH hS hL
  obtain ⟨f1, f2, f3, f4, f5, f6, f7, f8, f9, f10, f11⟩ := F
  exact k p l e R s m args below meth cd Q H locs cells slots L ⟨f1, f2, f3, f4, f5, f6, f7, f8, f9, f10, fun v h' H locs pc L a b => f11 v h' H locs pc L a (hK h' v b)⟩ h1 h2 hH hS hL
def argL : List Value → List (Option Value)
  | [] => []
  | v :: r => match v with
    | .long x => some (.long x) :: none :: argL r
    | .double x => some (.double x) :: none :: argL r
    | w => some w :: argL r
theorem argL_at (G : Gd) : ∀ (as : List Value) (k i : Nat) (v : Value), (argL as)[i]? = some (some v) → (k + i, cv G v) ∈ lv_args k (as.map (cv G)) := by
  intro as
  induction as with
  | nil => intro k i v h; simp [argL] at h
  | cons a r ih =>
    intro k i v h
    have one : ∀ w : Value, w.category = 1 → (some w :: argL r)[i]? = some (some v) → (k + i, cv G v) ∈ lv_args k ((w :: r).map (cv G)) := by
      intro w hw hi
      rw [List.map_cons]
      show _ ∈ (k, cv G w) :: lv_args (if (cv G w).category = 2 then k + 2 else k + 1) (r.map (cv G))
      rw [cv_cat, if_neg (by omega)]
      cases i with
      | zero => rw [List.getElem?_cons_zero] at hi; cases hi; exact List.mem_cons_self
      | succ i =>
        rw [List.getElem?_cons_succ] at hi
        have := ih (k + 1) i v hi
        rw [show k + 1 + i = k + (i + 1) by omega] at this
        exact List.mem_cons_of_mem _ this
    have two : ∀ w : Value, w.category = 2 → (some w :: none :: argL r)[i]? = some (some v) → (k + i, cv G v) ∈ lv_args k ((w :: r).map (cv G)) := by
      intro w hw hi
      rw [List.map_cons]
      show _ ∈ (k, cv G w) :: lv_args (if (cv G w).category = 2 then k + 2 else k + 1) (r.map (cv G))
      rw [cv_cat, if_pos hw]
      match i, hi with
      | 0, hi => rw [List.getElem?_cons_zero] at hi; cases hi; exact List.mem_cons_self
      | 1, hi => rw [List.getElem?_cons_succ, List.getElem?_cons_zero] at hi; cases hi
      | i + 2, hi =>
        rw [List.getElem?_cons_succ, List.getElem?_cons_succ] at hi
        have := ih (k + 2) i v hi
        rw [show k + 2 + i = k + (i + 2) by omega] at this
        exact List.mem_cons_of_mem _ this
    cases a with
    | long x => exact two _ rfl h
    | double x => exact two _ rfl h
    | int x => exact one _ rfl h
    | float x => exact one _ rfl h
    | null => exact one _ rfl h
    | ref x => exact one _ rfl h
    | retAddr x => exact one _ rfl h
/-- a method by its body -/
theorem AM.intro {G : Gd} {d c n : Nat} {Y : Mi} {as : List Value} {h : Ah} {K : Ah → Option Value → Prop} (hy : plainName Y.1.cls = true) (hlen : (lg_sl as).length ≤ Y.2.2.1) (ls : List (Option Value)) (hls : argL as ++ List.replicate (Y.2.2.1 - (lg_sl as).length) none = ls) (k : AW G Y d c n K 0 ls [] h) : AM G d c n Y as h K := by
  intro l
  refine Met.ofW (cc := Y.2.1) (maxL := Y.2.2.1) (ret := Y.2.2.2) hy rfl ?_
  intro p e s m args below meth cd s₁ B hml hv
  obtain ⟨rfl, hH, hK, hE⟩ := hv
  have hts := atoms_spec (ws := Cond.code Y.1 Y.2.1 Y.2.2.1 Y.2.2.2 :: WS) B.pre
  have hlen2 : (lg_sl (as.map (cv G))).length = (lg_sl as).length := by
    clear B hts hml hK hE hls k hH hlen
    induction as with
    | nil => rfl
    | cons a r ih =>
      unfold lg_sl at ih ⊢
      rw [List.map_cons, List.flatMap_cons, List.flatMap_cons, List.length_append, List.length_append, ih]
      congr 1
      rw [cv_cat]
      split <;> rfl
  have hl := lv_entry (as.map (cv G)) (n := Y.2.2.1) (by rw [hlen2]; exact hlen)
  rw [lg_entry_eq]
  generalize (lg_sl (as.map (cv G)) ++ List.replicate (Y.2.2.1 - (lg_sl (as.map (cv G))).length) Slot.unset).toArray = L at hl ⊢
  refine k p l e _ s m _ below meth cd _ s.heap [] 0 0 L ⟨B.exec, B.bytes, hml, findClass_of_methodNamed B.named, fun w hw => hts w (List.mem_cons_of_mem _ hw), (name_of_methodNamed B.named B.method).1, ⟨Nat.le_refl _, Nat.le_refl _⟩, hK, hE, hH.le, ?_⟩ (by show 0 + c ≤ c; omega) (by show 0 + n ≤ n; omega) hH va_S.rf ⟨hl.1, hl.2.1, fun i v hi => ?_⟩
  · intro v h' H locs pc L hR hk hH' hS
    have hend : ∀ t : State, t.heap = H → QcA G K ((as.map (cv G)).toArray) s (.returned (v.map (cv G))) t := fun t ht => ⟨⟨v, h', rfl, hk, by rw [ht]; exact hH'⟩, hS.F ht⟩
    have hlocks := B.notSynchronized
    rcases hR with ⟨rfl, hd, hr⟩ | ⟨x, ty, rfl, hd, hr, hn⟩ | ⟨x, rfl, hd, hr⟩ | ⟨o, rfl, hd, hr⟩
    · exact W.vret B.exec B.bytes (B.returns.trans hr) (fun t ht _ => hend t ht) hS.2.2 hd hlocks
    · exact W.zret B.exec B.bytes (B.returns.trans hr) hn (fun t ht _ => hend t ht) hS.2.2 hd hlocks
    · exact W.lret B.exec B.bytes (B.returns.trans hr) (fun t ht _ => hend t ht) hS.2.2 hd hlocks
    · have hv' : cv G (va_rf o) = .null ∨ ∃ a, cv G (va_rf o) = .ref a := by
        cases o with
        | none => exact Or.inl rfl
        | some a => exact Or.inr ⟨_, rfl⟩
      rcases hr with ⟨nn, hr⟩ | ⟨t, hr⟩
      · exact W.aret B.exec B.bytes (B.returns.trans hr) (Or.inl ⟨nn, rfl⟩) hv' (fun t ht _ => hend t ht) hS.2.2 hd hlocks
      · exact W.aret B.exec B.bytes (B.returns.trans hr) (Or.inr ⟨t, rfl⟩) hv' (fun t ht _ => hend t ht) hS.2.2 hd hlocks
  · have hi2 : (argL as)[i]? = some (some v) := by
      rw [← hls] at hi
      by_cases hil : i < (argL as).length
      · rwa [List.getElem?_append_left hil] at hi
      · rw [List.getElem?_append_right (by omega)] at hi
        exact absurd (List.mem_of_getElem? hi) (fun q => by have := (List.mem_replicate.mp q).2; cases this)
    have := argL_at G as 0 i v hi2
    rw [Nat.zero_add] at this
    exact hl.2.2 _ this
