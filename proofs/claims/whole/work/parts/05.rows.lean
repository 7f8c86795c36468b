/-! ===== locals written ===== -/
def cl1 (x : Option Value) : Option Value := match x with
  | some (.long _) => none
  | some (.double _) => none
  | y => y
theorem cl1_of {x : Option Value} {w : Value} (h : cl1 x = some w) : x = some w ∧ w.category ≠ 2 := by
  cases x with
  | none => cases h
  | some v => cases v <;> first | (cases h; done) | (cases h; exact ⟨rfl, by decide⟩) | (cases h; exact ⟨rfl, fun q => by cases q⟩)
def st1 : List (Option Value) → Nat → Value → List (Option Value)
  | [], _, _ => []
  | _ :: r, 0, v => some v :: r
  | x :: r, i + 1, v => (match i with | 0 => cl1 x | _ => x) :: st1 r i v
def st2 : List (Option Value) → Nat → Value → List (Option Value)
  | [], _, _ => []
  | _ :: r, 0, v => some v :: (match r with | [] => [] | _ :: r2 => none :: r2)
  | x :: r, i + 1, v => (match i with | 0 => cl1 x | _ => x) :: st2 r i v
theorem st1_c (x : Option Value) (r : List (Option Value)) (i : Nat) (v : Value) : st1 (x :: r) (i + 1) v = (if i = 0 then cl1 x else x) :: st1 r i v := by cases i <;> rfl
theorem st2_c (x : Option Value) (r : List (Option Value)) (i : Nat) (v : Value) : st2 (x :: r) (i + 1) v = (if i = 0 then cl1 x else x) :: st2 r i v := by cases i <;> rfl
theorem st1_z (x : Option Value) (r : List (Option Value)) (v : Value) : st1 (x :: r) 0 v = some v :: r := rfl
theorem st2_z (x : Option Value) (r : List (Option Value)) (v : Value) : st2 (x :: r) 0 v = some v :: (match r with | [] => [] | _ :: r2 => none :: r2) := rfl
theorem st1_of : ∀ (ls : List (Option Value)) (i j : Nat) (v w : Value), (st1 ls i v)[j]? = some (some w) → (j = i ∧ w = v) ∨ (j ≠ i ∧ ls[j]? = some (some w) ∧ (j + 1 = i → w.category ≠ 2)) := by
  intro ls
  induction ls with
  | nil => intro i j v w h; simp [st1] at h
  | cons x r ih =>
    intro i j v w h
    cases i with
    | zero =>
      cases j with
      | zero => rw [st1_z, List.getElem?_cons_zero] at h; cases h; exact Or.inl ⟨rfl, rfl⟩
      | succ j => rw [st1_z, List.getElem?_cons_succ] at h; exact Or.inr ⟨by omega, by rw [List.getElem?_cons_succ]; exact h, by omega⟩
    | succ i =>
      cases j with
      | zero =>
        rw [st1_c, List.getElem?_cons_zero] at h
        refine Or.inr ⟨by omega, ?_⟩
        rw [List.getElem?_cons_zero]
        cases i with
        | zero => rw [if_pos rfl] at h; obtain ⟨h1, h2⟩ := cl1_of (Option.some.inj h); exact ⟨by rw [h1], fun _ => h2⟩
        | succ i => rw [if_neg (Nat.succ_ne_zero i)] at h; exact ⟨h, by omega⟩
      | succ j =>
        rw [st1_c, List.getElem?_cons_succ] at h
        rw [List.getElem?_cons_succ]
        rcases ih i j v w h with ⟨h1, h2⟩ | ⟨h1, h2, h3⟩
        · exact Or.inl ⟨by omega, h2⟩
        · exact Or.inr ⟨by omega, h2, fun q => h3 (by omega)⟩
theorem st2_of : ∀ (ls : List (Option Value)) (i j : Nat) (v w : Value), (st2 ls i v)[j]? = some (some w) → (j = i ∧ w = v) ∨ (j ≠ i ∧ j ≠ i + 1 ∧ ls[j]? = some (some w) ∧ (j + 1 = i → w.category ≠ 2)) := by
  intro ls
  induction ls with
  | nil => intro i j v w h; simp [st2] at h
  | cons x r ih =>
    intro i j v w h
    cases i with
    | zero =>
      cases j with
      | zero => rw [st2_z, List.getElem?_cons_zero] at h; cases h; exact Or.inl ⟨rfl, rfl⟩
      | succ j =>
        rw [st2_z, List.getElem?_cons_succ] at h
        rw [List.getElem?_cons_succ]
        cases r with
        | nil => simp at h
        | cons y r2 =>
          cases j with
          | zero => rw [List.getElem?_cons_zero] at h; cases h
          | succ j =>
            rw [List.getElem?_cons_succ] at h
            exact Or.inr ⟨by omega, by omega, by rw [List.getElem?_cons_succ]; exact h, by omega⟩
    | succ i =>
      cases j with
      | zero =>
        rw [st2_c, List.getElem?_cons_zero] at h
        refine Or.inr ⟨by omega, by omega, ?_⟩
        rw [List.getElem?_cons_zero]
        cases i with
        | zero => rw [if_pos rfl] at h; obtain ⟨h1, h2⟩ := cl1_of (Option.some.inj h); exact ⟨by rw [h1], fun _ => h2⟩
        | succ i => rw [if_neg (Nat.succ_ne_zero i)] at h; exact ⟨h, by omega⟩
      | succ j =>
        rw [st2_c, List.getElem?_cons_succ] at h
        rw [List.getElem?_cons_succ]
        rcases ih i j v w h with ⟨h1, h2⟩ | ⟨h1, h4, h2, h3⟩
        · exact Or.inl ⟨by omega, h2⟩
        · exact Or.inr ⟨by omega, by omega, h2, fun q => h3 (by omega)⟩
theorem Lc.has {G : Gd} {n : Nat} {ls : List (Option Value)} {L : Array Slot} (h : Lc G n ls L) {j : Nat} {w : Value} (hj : ls[j]? = some (some w)) : lv_has L n [(j, cv G w)] :=
  ⟨h.1, h.2.1, fun q hq => by rw [List.mem_singleton.mp hq]; exact h.2.2 j w hj⟩
theorem Lc.set1 {G : Gd} {n : Nat} {ls ls' : List (Option Value)} {L : Array Slot} (h : Lc G n ls L) {i : Nat} {v : Value} (hi : i < n) (hc : v.category = 1) (hs : st1 ls i v = ls') : ∃ L', storeLocals L i (cv G v) = some L' ∧ Lc G n ls' L' := by
  subst hs
  obtain ⟨L', e, h1⟩ := lv_store1 (v := cv G v) (l := []) ⟨h.1, h.2.1, fun q hq => by cases hq⟩ hi ((cv_cat G v).trans hc)
  refine ⟨L', e, h1.1, h1.2.1, fun j w hj => ?_⟩
  rcases st1_of ls i j v w hj with ⟨rfl, rfl⟩ | ⟨h2, h3, h4⟩
  · exact h1.2.2 _ List.mem_cons_self
  · obtain ⟨L2, e2, h5⟩ := lv_store1 (v := cv G v) (h.has h3) hi ((cv_cat G v).trans hc)
    cases e.symm.trans e2
    refine h5.2.2 (j, cv G w) (List.mem_cons_of_mem _ (List.mem_filter.mpr ⟨List.mem_singleton.mpr rfl, ?_⟩))
    have e3 : (j == i) = false := beq_eq_false_iff_ne.mpr h2
    by_cases e4 : j + 1 = i
    · have e5 : (w.category == 2) = false := beq_eq_false_iff_ne.mpr (h4 e4)
      simp [e3, cv_cat, e5]
    · have e5 : (j + 1 == i) = false := beq_eq_false_iff_ne.mpr e4
      simp [e3, e5]
theorem Lc.set2 {G : Gd} {n : Nat} {ls ls' : List (Option Value)} {L : Array Slot} (h : Lc G n ls L) {i : Nat} {v : Value} (hi : i + 1 < n) (hc : v.category = 2) (hs : st2 ls i v = ls') : ∃ L', storeLocals L i (cv G v) = some L' ∧ Lc G n ls' L' := by
  subst hs
  obtain ⟨L', e, h1⟩ := lv_store2 (v := cv G v) (l := []) ⟨h.1, h.2.1, fun q hq => by cases hq⟩ hi ((cv_cat G v).trans hc)
  refine ⟨L', e, h1.1, h1.2.1, fun j w hj => ?_⟩
  rcases st2_of ls i j v w hj with ⟨rfl, rfl⟩ | ⟨h2, h6, h3, h4⟩
  · exact h1.2.2 _ List.mem_cons_self
  · obtain ⟨L2, e2, h5⟩ := lv_store2 (v := cv G v) (h.has h3) hi ((cv_cat G v).trans hc)
    cases e.symm.trans e2
    refine h5.2.2 (j, cv G w) (List.mem_cons_of_mem _ (List.mem_filter.mpr ⟨List.mem_singleton.mpr rfl, ?_⟩))
    have e3 : (j == i) = false := beq_eq_false_iff_ne.mpr h2
    have e6 : (j == i + 1) = false := beq_eq_false_iff_ne.mpr h6
    by_cases e4 : j + 1 = i
    · have e5 : (w.category == 2) = false := beq_eq_false_iff_ne.mpr (h4 e4)
      simp [e3, e6, cv_cat, e5]
    · have e5 : (j + 1 == i) = false := beq_eq_false_iff_ne.mpr e4
      simp [e3, e5, e6]
/-! ===== rows that only move values ===== -/
theorem AW.iconst {G : Gd} {M : Mi} {d c n : Nat} {K : Ah → Option Value → Prop} {pc : Nat} {ls : List (Option Value)} {st : List Value} {h : Ah} {z : Int} {v : Int32} (hd : decode M.2.1 pc = .ok (.iconst z, 1)) (hv : Int32.ofInt z = v) (k : AW G M d c n K (pc + 1) ls (.int v :: st) h) : AW G M d c n K (pc) ls (st) h := by
  intro p l e R s m args below meth cd Q H locs cells slots L F h1 h2 hH hS hL
  exact lv_iconst F.1 F.2.1 hd hv (k p l e R s m args below meth cd Q H locs cells slots L F h1 h2 hH hS hL)
theorem AW.bipush {G : Gd} {M : Mi} {d c n : Nat} {K : Ah → Option Value → Prop} {pc : Nat} {ls : List (Option Value)} {st : List Value} {h : Ah} {z : Int} {v : Int32} (hd : decode M.2.1 pc = .ok (.bipush z, 2)) (hv : (Int8.ofInt z).toInt32 = v) (k : AW G M d c n K (pc + 2) ls (.int v :: st) h) : AW G M d c n K (pc) ls (st) h := by
  intro p l e R s m args below meth cd Q H locs cells slots L F h1 h2 hH hS hL
  exact lv_bipush F.1 F.2.1 hd hv (k p l e R s m args below meth cd Q H locs cells slots L F h1 h2 hH hS hL)
theorem AW.sipush {G : Gd} {M : Mi} {d c n : Nat} {K : Ah → Option Value → Prop} {pc : Nat} {ls : List (Option Value)} {st : List Value} {h : Ah} {z : Int} {v : Int32} (hd : decode M.2.1 pc = .ok (.sipush z, 3)) (hv : (Int16.ofInt z).toInt32 = v) (k : AW G M d c n K (pc + 3) ls (.int v :: st) h) : AW G M d c n K (pc) ls (st) h := by
  intro p l e R s m args below meth cd Q H locs cells slots L F h1 h2 hH hS hL
  exact lv_sipush F.1 F.2.1 hd hv (k p l e R s m args below meth cd Q H locs cells slots L F h1 h2 hH hS hL)
theorem AW.lconst {G : Gd} {M : Mi} {d c n : Nat} {K : Ah → Option Value → Prop} {pc : Nat} {ls : List (Option Value)} {st : List Value} {h : Ah} {z : Fin 2} {v : Int64} (hd : decode M.2.1 pc = .ok (.lconst z, 1)) (hv : Int64.ofNat (z : Nat) = v) (k : AW G M d c n K (pc + 1) ls (.long v :: st) h) : AW G M d c n K (pc) ls (st) h := by
  intro p l e R s m args below meth cd Q H locs cells slots L F h1 h2 hH hS hL
  exact lv_lconst F.1 F.2.1 hd hv (k p l e R s m args below meth cd Q H locs cells slots L F h1 h2 hH hS hL)
theorem AW.null {G : Gd} {M : Mi} {d c n : Nat} {K : Ah → Option Value → Prop} {pc : Nat} {ls : List (Option Value)} {st : List Value} {h : Ah} (hd : decode M.2.1 pc = .ok (.aconst_null, 1)) (k : AW G M d c n K (pc + 1) ls (.null :: st) h) : AW G M d c n K (pc) ls (st) h := by
  intro p l e R s m args below meth cd Q H locs cells slots L F h1 h2 hH hS hL
  exact lv_null F.1 F.2.1 hd (k p l e R s m args below meth cd Q H locs cells slots L F h1 h2 hH hS hL)
theorem AW.ldc {G : Gd} {M : Mi} {d c n : Nat} {K : Ah → Option Value → Prop} {pc : Nat} {ls : List (Option Value)} {st : List Value} {h : Ah} {ix : Nat} {v : Int32} (hd : decode M.2.1 pc = .ok (.ldc ix, 2)) (hw : Cond.constant M.1.cls ix v ∈ WS) (k : AW G M d c n K (pc + 2) ls (.int v :: st) h) : AW G M d c n K (pc) ls (st) h := by
  intro p l e R s m args below meth cd Q H locs cells slots L F h1 h2 hH hS hL
  exact lv_ldc F.1 F.2.1 F.2.2.2.1 (F.2.2.2.2.1 _ hw) hd (k p l e R s m args below meth cd Q H locs cells slots L F h1 h2 hH hS hL)
theorem AW.ldcw {G : Gd} {M : Mi} {d c n : Nat} {K : Ah → Option Value → Prop} {pc : Nat} {ls : List (Option Value)} {st : List Value} {h : Ah} {ix : Nat} {v : Int32} (hd : decode M.2.1 pc = .ok (.ldc_w ix, 3)) (hw : Cond.constant M.1.cls ix v ∈ WS) (k : AW G M d c n K (pc + 3) ls (.int v :: st) h) : AW G M d c n K (pc) ls (st) h := by
  intro p l e R s m args below meth cd Q H locs cells slots L F h1 h2 hH hS hL
  exact lv_ldcw F.1 F.2.1 F.2.2.2.1 (F.2.2.2.2.1 _ hw) hd (k p l e R s m args below meth cd Q H locs cells slots L F h1 h2 hH hS hL)
theorem AW.ldc2 {G : Gd} {M : Mi} {d c n : Nat} {K : Ah → Option Value → Prop} {pc : Nat} {ls : List (Option Value)} {st : List Value} {h : Ah} {ix : Nat} {v : Int64} (hd : decode M.2.1 pc = .ok (.ldc2_w ix, 3)) (hw : Cond.constantLong M.1.cls ix v ∈ WS) (k : AW G M d c n K (pc + 3) ls (.long v :: st) h) : AW G M d c n K (pc) ls (st) h := by
  intro p l e R s m args below meth cd Q H locs cells slots L F h1 h2 hH hS hL
  exact lv_ldc2 F.1 F.2.1 F.2.2.2.1 (F.2.2.2.2.1 _ hw) hd (k p l e R s m args below meth cd Q H locs cells slots L F h1 h2 hH hS hL)
theorem AW.iload_n {G : Gd} {M : Mi} {d c n : Nat} {K : Ah → Option Value → Prop} {pc : Nat} {ls : List (Option Value)} {st : List Value} {h : Ah} {q : Fin 4} {x : Int32} (hd : decode M.2.1 pc = .ok (.iload_n q, 1)) (hl : ls[(q : Nat)]? = some (some (.int x))) (k : AW G M d c n K (pc + 1) ls (.int x :: st) h) : AW G M d c n K (pc) ls (st) h := by
  intro p l e R s m args below meth cd Q H locs cells slots L F h1 h2 hH hS hL
  exact lv_iload_n F.1 F.2.1 hd rfl (hL.2.2 _ _ hl) (k p l e R s m args below meth cd Q H locs cells slots L F h1 h2 hH hS hL)
theorem AW.iload {G : Gd} {M : Mi} {d c n : Nat} {K : Ah → Option Value → Prop} {pc : Nat} {ls : List (Option Value)} {st : List Value} {h : Ah} {i : Nat} {x : Int32} (hd : decode M.2.1 pc = .ok (.iload i, 2)) (hl : ls[i]? = some (some (.int x))) (k : AW G M d c n K (pc + 2) ls (.int x :: st) h) : AW G M d c n K (pc) ls (st) h := by
  intro p l e R s m args below meth cd Q H locs cells slots L F h1 h2 hH hS hL
  exact lv_iload F.1 F.2.1 hd (hL.2.2 _ _ hl) (k p l e R s m args below meth cd Q H locs cells slots L F h1 h2 hH hS hL)
theorem AW.lload_n {G : Gd} {M : Mi} {d c n : Nat} {K : Ah → Option Value → Prop} {pc : Nat} {ls : List (Option Value)} {st : List Value} {h : Ah} {q : Fin 4} {x : Int64} (hd : decode M.2.1 pc = .ok (.lload_n q, 1)) (hl : ls[(q : Nat)]? = some (some (.long x))) (k : AW G M d c n K (pc + 1) ls (.long x :: st) h) : AW G M d c n K (pc) ls (st) h := by
  intro p l e R s m args below meth cd Q H locs cells slots L F h1 h2 hH hS hL
  exact lv_lload_n F.1 F.2.1 hd rfl (hL.2.2 _ _ hl) (k p l e R s m args below meth cd Q H locs cells slots L F h1 h2 hH hS hL)
theorem AW.lload {G : Gd} {M : Mi} {d c n : Nat} {K : Ah → Option Value → Prop} {pc : Nat} {ls : List (Option Value)} {st : List Value} {h : Ah} {i : Nat} {x : Int64} (hd : decode M.2.1 pc = .ok (.lload i, 2)) (hl : ls[i]? = some (some (.long x))) (k : AW G M d c n K (pc + 2) ls (.long x :: st) h) : AW G M d c n K (pc) ls (st) h := by
  intro p l e R s m args below meth cd Q H locs cells slots L F h1 h2 hH hS hL
  exact lv_lload F.1 F.2.1 hd (hL.2.2 _ _ hl) (k p l e R s m args below meth cd Q H locs cells slots L F h1 h2 hH hS hL)
theorem AW.aload_n {G : Gd} {M : Mi} {d c n : Nat} {K : Ah → Option Value → Prop} {pc : Nat} {ls : List (Option Value)} {st : List Value} {h : Ah} {q : Fin 4} {x : Nat} (hd : decode M.2.1 pc = .ok (.aload_n q, 1)) (hl : ls[(q : Nat)]? = some (some (.ref x))) (k : AW G M d c n K (pc + 1) ls (.ref x :: st) h) : AW G M d c n K (pc) ls (st) h := by
  intro p l e R s m args below meth cd Q H locs cells slots L F h1 h2 hH hS hL
  exact lv_aload_n F.1 F.2.1 hd rfl (hL.2.2 _ _ hl) (k p l e R s m args below meth cd Q H locs cells slots L F h1 h2 hH hS hL)
theorem AW.aload {G : Gd} {M : Mi} {d c n : Nat} {K : Ah → Option Value → Prop} {pc : Nat} {ls : List (Option Value)} {st : List Value} {h : Ah} {i : Nat} {x : Nat} (hd : decode M.2.1 pc = .ok (.aload i, 2)) (hl : ls[i]? = some (some (.ref x))) (k : AW G M d c n K (pc + 2) ls (.ref x :: st) h) : AW G M d c n K (pc) ls (st) h := by
  intro p l e R s m args below meth cd Q H locs cells slots L F h1 h2 hH hS hL
  exact lv_aload F.1 F.2.1 hd (hL.2.2 _ _ hl) (k p l e R s m args below meth cd Q H locs cells slots L F h1 h2 hH hS hL)
theorem AW.aload_nN {G : Gd} {M : Mi} {d c n : Nat} {K : Ah → Option Value → Prop} {pc : Nat} {ls : List (Option Value)} {st : List Value} {h : Ah} {q : Fin 4} (hd : decode M.2.1 pc = .ok (.aload_n q, 1)) (hl : ls[(q : Nat)]? = some (some .null)) (k : AW G M d c n K (pc + 1) ls (.null :: st) h) : AW G M d c n K (pc) ls (st) h := by
  intro p l e R s m args below meth cd Q H locs cells slots L F h1 h2 hH hS hL
  exact lv_aload_nN F.1 F.2.1 hd rfl (hL.2.2 _ _ hl) (k p l e R s m args below meth cd Q H locs cells slots L F h1 h2 hH hS hL)
theorem AW.aloadN {G : Gd} {M : Mi} {d c n : Nat} {K : Ah → Option Value → Prop} {pc : Nat} {ls : List (Option Value)} {st : List Value} {h : Ah} {i : Nat} (hd : decode M.2.1 pc = .ok (.aload i, 2)) (hl : ls[i]? = some (some .null)) (k : AW G M d c n K (pc + 2) ls (.null :: st) h) : AW G M d c n K (pc) ls (st) h := by
  intro p l e R s m args below meth cd Q H locs cells slots L F h1 h2 hH hS hL
  exact lv_aloadN F.1 F.2.1 hd (hL.2.2 _ _ hl) (k p l e R s m args below meth cd Q H locs cells slots L F h1 h2 hH hS hL)
theorem AW.aload_nq {G : Gd} {M : Mi} {d c n : Nat} {K : Ah → Option Value → Prop} {pc : Nat} {ls : List (Option Value)} {st : List Value} {h : Ah} {q : Fin 4} {o : Option Nat} (hd : decode M.2.1 pc = .ok (.aload_n q, 1)) (hl : ls[(q : Nat)]? = some (some (va_rf o))) (k : AW G M d c n K (pc + 1) ls (va_rf o :: st) h) : AW G M d c n K (pc) ls (st) h := by
  intro p l e R s m args below meth cd Q H locs cells slots L F h1 h2 hH hS hL
  cases o with
  | none => exact lv_aload_nN F.1 F.2.1 hd rfl (hL.2.2 _ _ hl) (k p l e R s m args below meth cd Q H locs cells slots L F h1 h2 hH hS hL)
  | some a => exact lv_aload_n F.1 F.2.1 hd rfl (hL.2.2 _ _ hl) (k p l e R s m args below meth cd Q H locs cells slots L F h1 h2 hH hS hL)
theorem AW.aloadq {G : Gd} {M : Mi} {d c n : Nat} {K : Ah → Option Value → Prop} {pc : Nat} {ls : List (Option Value)} {st : List Value} {h : Ah} {i : Nat} {o : Option Nat} (hd : decode M.2.1 pc = .ok (.aload i, 2)) (hl : ls[i]? = some (some (va_rf o))) (k : AW G M d c n K (pc + 2) ls (va_rf o :: st) h) : AW G M d c n K (pc) ls (st) h := by
  intro p l e R s m args below meth cd Q H locs cells slots L F h1 h2 hH hS hL
  cases o with
  | none => exact lv_aloadN F.1 F.2.1 hd (hL.2.2 _ _ hl) (k p l e R s m args below meth cd Q H locs cells slots L F h1 h2 hH hS hL)
  | some a => exact lv_aload F.1 F.2.1 hd (hL.2.2 _ _ hl) (k p l e R s m args below meth cd Q H locs cells slots L F h1 h2 hH hS hL)
theorem AW.istore_n {G : Gd} {M : Mi} {d c n : Nat} {K : Ah → Option Value → Prop} {pc : Nat} {ls : List (Option Value)} {st : List Value} {h : Ah} {q : Fin 4} {x : Int32} {ls' : List (Option Value)} (hd : decode M.2.1 pc = .ok (.istore_n q, 1)) (hn : (q : Nat) < M.2.2.1) (hs : st1 ls (q : Nat) (.int x) = ls') (k : AW G M d c n K (pc + 1) ls' (st) h) : AW G M d c n K (pc) ls (.int x :: st) h := by
  intro p l e R s m args below meth cd Q H locs cells slots L F h1 h2 hH hS hL
  obtain ⟨L', e', hL'⟩ := hL.set1 hn rfl hs
  replace e' : storeLocals L _ (.int x) = some L' := e'
  show W p l e R s m args below meth cd H locs cells slots Q (F0 m pc L (.int x :: st.map (cv G)))
  intro T hT X
  obtain ⟨t, a, b⟩ := k p l e R s m args below meth cd Q H locs cells slots L' F h1 h2 hH hS hL' T hT X
  refine ⟨t, ?_, b⟩
  jvm_step X.here [X.here.top, ↓top_set X.here.top, F.1, F.2.1, hd, e']
  exact a
theorem AW.istore {G : Gd} {M : Mi} {d c n : Nat} {K : Ah → Option Value → Prop} {pc : Nat} {ls : List (Option Value)} {st : List Value} {h : Ah} {i : Nat} {x : Int32} {ls' : List (Option Value)} (hd : decode M.2.1 pc = .ok (.istore i, 2)) (hn : i < M.2.2.1) (hs : st1 ls i (.int x) = ls') (k : AW G M d c n K (pc + 2) ls' (st) h) : AW G M d c n K (pc) ls (.int x :: st) h := by
  intro p l e R s m args below meth cd Q H locs cells slots L F h1 h2 hH hS hL
  obtain ⟨L', e', hL'⟩ := hL.set1 hn rfl hs
  replace e' : storeLocals L _ (.int x) = some L' := e'
  show W p l e R s m args below meth cd H locs cells slots Q (F0 m pc L (.int x :: st.map (cv G)))
  intro T hT X
  obtain ⟨t, a, b⟩ := k p l e R s m args below meth cd Q H locs cells slots L' F h1 h2 hH hS hL' T hT X
  refine ⟨t, ?_, b⟩
  jvm_step X.here [X.here.top, ↓top_set X.here.top, F.1, F.2.1, hd, e']
  exact a
theorem AW.lstore_n {G : Gd} {M : Mi} {d c n : Nat} {K : Ah → Option Value → Prop} {pc : Nat} {ls : List (Option Value)} {st : List Value} {h : Ah} {q : Fin 4} {x : Int64} {ls' : List (Option Value)} (hd : decode M.2.1 pc = .ok (.lstore_n q, 1)) (hn : (q : Nat) + 1 < M.2.2.1) (hs : st2 ls (q : Nat) (.long x) = ls') (k : AW G M d c n K (pc + 1) ls' (st) h) : AW G M d c n K (pc) ls (.long x :: st) h := by
  intro p l e R s m args below meth cd Q H locs cells slots L F h1 h2 hH hS hL
  obtain ⟨L', e', hL'⟩ := hL.set2 hn rfl hs
  replace e' : storeLocals L _ (.long x) = some L' := e'
  show W p l e R s m args below meth cd H locs cells slots Q (F0 m pc L (.long x :: st.map (cv G)))
  intro T hT X
  obtain ⟨t, a, b⟩ := k p l e R s m args below meth cd Q H locs cells slots L' F h1 h2 hH hS hL' T hT X
  refine ⟨t, ?_, b⟩
  jvm_step X.here [X.here.top, ↓top_set X.here.top, F.1, F.2.1, hd, e']
  exact a
theorem AW.lstore {G : Gd} {M : Mi} {d c n : Nat} {K : Ah → Option Value → Prop} {pc : Nat} {ls : List (Option Value)} {st : List Value} {h : Ah} {i : Nat} {x : Int64} {ls' : List (Option Value)} (hd : decode M.2.1 pc = .ok (.lstore i, 2)) (hn : i + 1 < M.2.2.1) (hs : st2 ls i (.long x) = ls') (k : AW G M d c n K (pc + 2) ls' (st) h) : AW G M d c n K (pc) ls (.long x :: st) h := by
  intro p l e R s m args below meth cd Q H locs cells slots L F h1 h2 hH hS hL
  obtain ⟨L', e', hL'⟩ := hL.set2 hn rfl hs
  replace e' : storeLocals L _ (.long x) = some L' := e'
  show W p l e R s m args below meth cd H locs cells slots Q (F0 m pc L (.long x :: st.map (cv G)))
  intro T hT X
  obtain ⟨t, a, b⟩ := k p l e R s m args below meth cd Q H locs cells slots L' F h1 h2 hH hS hL' T hT X
  refine ⟨t, ?_, b⟩
  jvm_step X.here [X.here.top, ↓top_set X.here.top, F.1, F.2.1, hd, e']
  exact a
theorem AW.astore_n {G : Gd} {M : Mi} {d c n : Nat} {K : Ah → Option Value → Prop} {pc : Nat} {ls : List (Option Value)} {st : List Value} {h : Ah} {q : Fin 4} {x : Nat} {ls' : List (Option Value)} (hd : decode M.2.1 pc = .ok (.astore_n q, 1)) (hn : (q : Nat) < M.2.2.1) (hs : st1 ls (q : Nat) (.ref x) = ls') (k : AW G M d c n K (pc + 1) ls' (st) h) : AW G M d c n K (pc) ls (.ref x :: st) h := by
  intro p l e R s m args below meth cd Q H locs cells slots L F h1 h2 hH hS hL
  obtain ⟨L', e', hL'⟩ := hL.set1 hn rfl hs
  replace e' : storeLocals L _ (.ref (ad G x)) = some L' := e'
  show W p l e R s m args below meth cd H locs cells slots Q (F0 m pc L (.ref (ad G x) :: st.map (cv G)))
  intro T hT X
  obtain ⟨t, a, b⟩ := k p l e R s m args below meth cd Q H locs cells slots L' F h1 h2 hH hS hL' T hT X
  refine ⟨t, ?_, b⟩
  jvm_step X.here [X.here.top, ↓top_set X.here.top, F.1, F.2.1, hd, e', Value.isRef]
  exact a
theorem AW.astore {G : Gd} {M : Mi} {d c n : Nat} {K : Ah → Option Value → Prop} {pc : Nat} {ls : List (Option Value)} {st : List Value} {h : Ah} {i : Nat} {x : Nat} {ls' : List (Option Value)} (hd : decode M.2.1 pc = .ok (.astore i, 2)) (hn : i < M.2.2.1) (hs : st1 ls i (.ref x) = ls') (k : AW G M d c n K (pc + 2) ls' (st) h) : AW G M d c n K (pc) ls (.ref x :: st) h := by
  intro p l e R s m args below meth cd Q H locs cells slots L F h1 h2 hH hS hL
  obtain ⟨L', e', hL'⟩ := hL.set1 hn rfl hs
  replace e' : storeLocals L _ (.ref (ad G x)) = some L' := e'
  show W p l e R s m args below meth cd H locs cells slots Q (F0 m pc L (.ref (ad G x) :: st.map (cv G)))
  intro T hT X
  obtain ⟨t, a, b⟩ := k p l e R s m args below meth cd Q H locs cells slots L' F h1 h2 hH hS hL' T hT X
  refine ⟨t, ?_, b⟩
  jvm_step X.here [X.here.top, ↓top_set X.here.top, F.1, F.2.1, hd, e', Value.isRef]
  exact a
theorem AW.astore_nN {G : Gd} {M : Mi} {d c n : Nat} {K : Ah → Option Value → Prop} {pc : Nat} {ls : List (Option Value)} {st : List Value} {h : Ah} {q : Fin 4} {ls' : List (Option Value)} (hd : decode M.2.1 pc = .ok (.astore_n q, 1)) (hn : (q : Nat) < M.2.2.1) (hs : st1 ls (q : Nat) (.null) = ls') (k : AW G M d c n K (pc + 1) ls' (st) h) : AW G M d c n K (pc) ls (.null :: st) h := by
  intro p l e R s m args below meth cd Q H locs cells slots L F h1 h2 hH hS hL
  obtain ⟨L', e', hL'⟩ := hL.set1 hn rfl hs
  replace e' : storeLocals L _ (.null) = some L' := e'
  show W p l e R s m args below meth cd H locs cells slots Q (F0 m pc L (.null :: st.map (cv G)))
  intro T hT X
  obtain ⟨t, a, b⟩ := k p l e R s m args below meth cd Q H locs cells slots L' F h1 h2 hH hS hL' T hT X
  refine ⟨t, ?_, b⟩
  jvm_step X.here [X.here.top, ↓top_set X.here.top, F.1, F.2.1, hd, e', Value.isRef]
  exact a
theorem AW.astoreN {G : Gd} {M : Mi} {d c n : Nat} {K : Ah → Option Value → Prop} {pc : Nat} {ls : List (Option Value)} {st : List Value} {h : Ah} {i : Nat} {ls' : List (Option Value)} (hd : decode M.2.1 pc = .ok (.astore i, 2)) (hn : i < M.2.2.1) (hs : st1 ls i (.null) = ls') (k : AW G M d c n K (pc + 2) ls' (st) h) : AW G M d c n K (pc) ls (.null :: st) h := by
  intro p l e R s m args below meth cd Q H locs cells slots L F h1 h2 hH hS hL
  obtain ⟨L', e', hL'⟩ := hL.set1 hn rfl hs
  replace e' : storeLocals L _ (.null) = some L' := e'
  show W p l e R s m args below meth cd H locs cells slots Q (F0 m pc L (.null :: st.map (cv G)))
  intro T hT X
  obtain ⟨t, a, b⟩ := k p l e R s m args below meth cd Q H locs cells slots L' F h1 h2 hH hS hL' T hT X
  refine ⟨t, ?_, b⟩
  jvm_step X.here [X.here.top, ↓top_set X.here.top, F.1, F.2.1, hd, e', Value.isRef]
  exact a
theorem AW.astore_nq {G : Gd} {M : Mi} {d c n : Nat} {K : Ah → Option Value → Prop} {pc : Nat} {ls : List (Option Value)} {st : List Value} {h : Ah} {q : Fin 4} {o : Option Nat} {ls' : List (Option Value)} (hd : decode M.2.1 pc = .ok (.astore_n q, 1)) (hn : (q : Nat) < M.2.2.1) (hs : st1 ls (q : Nat) (va_rf o) = ls') (k : AW G M d c n K (pc + 1) ls' (st) h) : AW G M d c n K (pc) ls (va_rf o :: st) h := by
  cases o with
  | none => exact AW.astore_nN hd hn hs k
  | some a => exact AW.astore_n hd hn hs k
theorem AW.astoreq {G : Gd} {M : Mi} {d c n : Nat} {K : Ah → Option Value → Prop} {pc : Nat} {ls : List (Option Value)} {st : List Value} {h : Ah} {i : Nat} {o : Option Nat} {ls' : List (Option Value)} (hd : decode M.2.1 pc = .ok (.astore i, 2)) (hn : i < M.2.2.1) (hs : st1 ls i (va_rf o) = ls') (k : AW G M d c n K (pc + 2) ls' (st) h) : AW G M d c n K (pc) ls (va_rf o :: st) h := by
  cases o with
  | none => exact AW.astoreN hd hn hs k
  | some a => exact AW.astore hd hn hs k
theorem AW.iinc {G : Gd} {M : Mi} {d c n : Nat} {K : Ah → Option Value → Prop} {pc : Nat} {ls : List (Option Value)} {st : List Value} {h : Ah} {i : Nat} {z : Int} {x v : Int32} {ls' : List (Option Value)} (hd : decode M.2.1 pc = .ok (.iinc i z, 3)) (hl : ls[i]? = some (some (.int x))) (hv : x + Int32.ofInt z = v) (hn : i < M.2.2.1) (hs : st1 ls i (.int v) = ls') (k : AW G M d c n K (pc + 3) ls' (st) h) : AW G M d c n K (pc) ls (st) h := by
  intro p l e R s m args below meth cd Q H locs cells slots L F h1 h2 hH hS hL
  subst hv
  have hg : L[i]? = some (.val (.int x)) := hL.2.2 _ _ hl
  obtain ⟨L', e', hL'⟩ := hL.set1 hn rfl hs
  replace e' : storeLocals L _ (.int (x + Int32.ofInt z)) = some L' := e'
  intro T hT X
  obtain ⟨t, a, b⟩ := k p l e R s m args below meth cd Q H locs cells slots L' F h1 h2 hH hS hL' T hT X
  refine ⟨t, ?_, b⟩
  jvm_step X.here [X.here.top, ↓top_set X.here.top, F.1, F.2.1, hd, hg, e']
  exact a
theorem AW.iadd {G : Gd} {M : Mi} {d c n : Nat} {K : Ah → Option Value → Prop} {pc : Nat} {ls : List (Option Value)} {st : List Value} {h : Ah} {x y : Int32} (hd : decode M.2.1 pc = .ok (.iadd, 1)) (k : AW G M d c n K (pc + 1) ls (.int (x + y) :: st) h) : AW G M d c n K (pc) ls (.int y :: .int x :: st) h := by
  intro p l e R s m args below meth cd Q H locs cells slots L F h1 h2 hH hS hL
  exact lv_iadd F.1 F.2.1 hd (k p l e R s m args below meth cd Q H locs cells slots L F h1 h2 hH hS hL)
theorem AW.isub {G : Gd} {M : Mi} {d c n : Nat} {K : Ah → Option Value → Prop} {pc : Nat} {ls : List (Option Value)} {st : List Value} {h : Ah} {x y : Int32} (hd : decode M.2.1 pc = .ok (.isub, 1)) (k : AW G M d c n K (pc + 1) ls (.int (x - y) :: st) h) : AW G M d c n K (pc) ls (.int y :: .int x :: st) h := by
  intro p l e R s m args below meth cd Q H locs cells slots L F h1 h2 hH hS hL
  exact lv_isub F.1 F.2.1 hd (k p l e R s m args below meth cd Q H locs cells slots L F h1 h2 hH hS hL)
theorem AW.imul {G : Gd} {M : Mi} {d c n : Nat} {K : Ah → Option Value → Prop} {pc : Nat} {ls : List (Option Value)} {st : List Value} {h : Ah} {x y : Int32} (hd : decode M.2.1 pc = .ok (.imul, 1)) (k : AW G M d c n K (pc + 1) ls (.int (x * y) :: st) h) : AW G M d c n K (pc) ls (.int y :: .int x :: st) h := by
  intro p l e R s m args below meth cd Q H locs cells slots L F h1 h2 hH hS hL
  exact lv_imul F.1 F.2.1 hd (k p l e R s m args below meth cd Q H locs cells slots L F h1 h2 hH hS hL)
theorem AW.iand {G : Gd} {M : Mi} {d c n : Nat} {K : Ah → Option Value → Prop} {pc : Nat} {ls : List (Option Value)} {st : List Value} {h : Ah} {x y : Int32} (hd : decode M.2.1 pc = .ok (.iand, 1)) (k : AW G M d c n K (pc + 1) ls (.int (x &&& y) :: st) h) : AW G M d c n K (pc) ls (.int y :: .int x :: st) h := by
  intro p l e R s m args below meth cd Q H locs cells slots L F h1 h2 hH hS hL
  exact lv_iand F.1 F.2.1 hd (k p l e R s m args below meth cd Q H locs cells slots L F h1 h2 hH hS hL)
theorem AW.ior {G : Gd} {M : Mi} {d c n : Nat} {K : Ah → Option Value → Prop} {pc : Nat} {ls : List (Option Value)} {st : List Value} {h : Ah} {x y : Int32} (hd : decode M.2.1 pc = .ok (.ior, 1)) (k : AW G M d c n K (pc + 1) ls (.int (x ||| y) :: st) h) : AW G M d c n K (pc) ls (.int y :: .int x :: st) h := by
  intro p l e R s m args below meth cd Q H locs cells slots L F h1 h2 hH hS hL
  exact lv_ior F.1 F.2.1 hd (k p l e R s m args below meth cd Q H locs cells slots L F h1 h2 hH hS hL)
theorem AW.ixor {G : Gd} {M : Mi} {d c n : Nat} {K : Ah → Option Value → Prop} {pc : Nat} {ls : List (Option Value)} {st : List Value} {h : Ah} {x y : Int32} (hd : decode M.2.1 pc = .ok (.ixor, 1)) (k : AW G M d c n K (pc + 1) ls (.int (x ^^^ y) :: st) h) : AW G M d c n K (pc) ls (.int y :: .int x :: st) h := by
  intro p l e R s m args below meth cd Q H locs cells slots L F h1 h2 hH hS hL
  exact lv_ixor F.1 F.2.1 hd (k p l e R s m args below meth cd Q H locs cells slots L F h1 h2 hH hS hL)
theorem AW.ishl {G : Gd} {M : Mi} {d c n : Nat} {K : Ah → Option Value → Prop} {pc : Nat} {ls : List (Option Value)} {st : List Value} {h : Ah} {x y : Int32} (hd : decode M.2.1 pc = .ok (.ishl, 1)) (k : AW G M d c n K (pc + 1) ls (.int (x <<< (y &&& 31)) :: st) h) : AW G M d c n K (pc) ls (.int y :: .int x :: st) h := by
  intro p l e R s m args below meth cd Q H locs cells slots L F h1 h2 hH hS hL
  exact lv_ishl F.1 F.2.1 hd (k p l e R s m args below meth cd Q H locs cells slots L F h1 h2 hH hS hL)
theorem AW.ishr {G : Gd} {M : Mi} {d c n : Nat} {K : Ah → Option Value → Prop} {pc : Nat} {ls : List (Option Value)} {st : List Value} {h : Ah} {x y : Int32} (hd : decode M.2.1 pc = .ok (.ishr, 1)) (k : AW G M d c n K (pc + 1) ls (.int (x >>> (y &&& 31)) :: st) h) : AW G M d c n K (pc) ls (.int y :: .int x :: st) h := by
  intro p l e R s m args below meth cd Q H locs cells slots L F h1 h2 hH hS hL
  exact lv_ishr F.1 F.2.1 hd (k p l e R s m args below meth cd Q H locs cells slots L F h1 h2 hH hS hL)
theorem AW.iushr {G : Gd} {M : Mi} {d c n : Nat} {K : Ah → Option Value → Prop} {pc : Nat} {ls : List (Option Value)} {st : List Value} {h : Ah} {x y : Int32} (hd : decode M.2.1 pc = .ok (.iushr, 1)) (k : AW G M d c n K (pc + 1) ls (.int ((x.toUInt32 >>> (y.toUInt32 &&& Int32.toUInt32 31)).toInt32) :: st) h) : AW G M d c n K (pc) ls (.int y :: .int x :: st) h := by
  intro p l e R s m args below meth cd Q H locs cells slots L F h1 h2 hH hS hL
  exact lv_iushr F.1 F.2.1 hd rfl (k p l e R s m args below meth cd Q H locs cells slots L F h1 h2 hH hS hL)
theorem AW.idiv {G : Gd} {M : Mi} {d c n : Nat} {K : Ah → Option Value → Prop} {pc : Nat} {ls : List (Option Value)} {st : List Value} {h : Ah} {x y : Int32} (hd : decode M.2.1 pc = .ok (.idiv, 1)) (hne : ¬ y = 0) (k : AW G M d c n K (pc + 1) ls (.int (x / y) :: st) h) : AW G M d c n K (pc) ls (.int y :: .int x :: st) h := by
  intro p l e R s m args below meth cd Q H locs cells slots L F h1 h2 hH hS hL
  exact lv_idiv F.1 F.2.1 hd hne (k p l e R s m args below meth cd Q H locs cells slots L F h1 h2 hH hS hL)
theorem AW.irem {G : Gd} {M : Mi} {d c n : Nat} {K : Ah → Option Value → Prop} {pc : Nat} {ls : List (Option Value)} {st : List Value} {h : Ah} {x y : Int32} (hd : decode M.2.1 pc = .ok (.irem, 1)) (hne : ¬ y = 0) (k : AW G M d c n K (pc + 1) ls (.int (x - x / y * y) :: st) h) : AW G M d c n K (pc) ls (.int y :: .int x :: st) h := by
  intro p l e R s m args below meth cd Q H locs cells slots L F h1 h2 hH hS hL
  exact lv_irem F.1 F.2.1 hd hne (k p l e R s m args below meth cd Q H locs cells slots L F h1 h2 hH hS hL)
theorem AW.ineg {G : Gd} {M : Mi} {d c n : Nat} {K : Ah → Option Value → Prop} {pc : Nat} {ls : List (Option Value)} {st : List Value} {h : Ah} {x : Int32} (hd : decode M.2.1 pc = .ok (.ineg, 1)) (k : AW G M d c n K (pc + 1) ls (.int (-x) :: st) h) : AW G M d c n K (pc) ls (.int x :: st) h := by
  intro p l e R s m args below meth cd Q H locs cells slots L F h1 h2 hH hS hL
  exact lv_ineg F.1 F.2.1 hd (k p l e R s m args below meth cd Q H locs cells slots L F h1 h2 hH hS hL)
theorem AW.ladd {G : Gd} {M : Mi} {d c n : Nat} {K : Ah → Option Value → Prop} {pc : Nat} {ls : List (Option Value)} {st : List Value} {h : Ah} {x y : Int64} (hd : decode M.2.1 pc = .ok (.ladd, 1)) (k : AW G M d c n K (pc + 1) ls (.long (x + y) :: st) h) : AW G M d c n K (pc) ls (.long y :: .long x :: st) h := by
  intro p l e R s m args below meth cd Q H locs cells slots L F h1 h2 hH hS hL
  exact lv_ladd F.1 F.2.1 hd (k p l e R s m args below meth cd Q H locs cells slots L F h1 h2 hH hS hL)
theorem AW.lsub {G : Gd} {M : Mi} {d c n : Nat} {K : Ah → Option Value → Prop} {pc : Nat} {ls : List (Option Value)} {st : List Value} {h : Ah} {x y : Int64} (hd : decode M.2.1 pc = .ok (.lsub, 1)) (k : AW G M d c n K (pc + 1) ls (.long (x - y) :: st) h) : AW G M d c n K (pc) ls (.long y :: .long x :: st) h := by
  intro p l e R s m args below meth cd Q H locs cells slots L F h1 h2 hH hS hL
  exact lv_lsub F.1 F.2.1 hd (k p l e R s m args below meth cd Q H locs cells slots L F h1 h2 hH hS hL)
theorem AW.lmul {G : Gd} {M : Mi} {d c n : Nat} {K : Ah → Option Value → Prop} {pc : Nat} {ls : List (Option Value)} {st : List Value} {h : Ah} {x y : Int64} (hd : decode M.2.1 pc = .ok (.lmul, 1)) (k : AW G M d c n K (pc + 1) ls (.long (x * y) :: st) h) : AW G M d c n K (pc) ls (.long y :: .long x :: st) h := by
  intro p l e R s m args below meth cd Q H locs cells slots L F h1 h2 hH hS hL
  exact lv_lmul F.1 F.2.1 hd (k p l e R s m args below meth cd Q H locs cells slots L F h1 h2 hH hS hL)
theorem AW.land {G : Gd} {M : Mi} {d c n : Nat} {K : Ah → Option Value → Prop} {pc : Nat} {ls : List (Option Value)} {st : List Value} {h : Ah} {x y : Int64} (hd : decode M.2.1 pc = .ok (.land, 1)) (k : AW G M d c n K (pc + 1) ls (.long (x &&& y) :: st) h) : AW G M d c n K (pc) ls (.long y :: .long x :: st) h := by
  intro p l e R s m args below meth cd Q H locs cells slots L F h1 h2 hH hS hL
  exact lv_land F.1 F.2.1 hd (k p l e R s m args below meth cd Q H locs cells slots L F h1 h2 hH hS hL)
theorem AW.lor {G : Gd} {M : Mi} {d c n : Nat} {K : Ah → Option Value → Prop} {pc : Nat} {ls : List (Option Value)} {st : List Value} {h : Ah} {x y : Int64} (hd : decode M.2.1 pc = .ok (.lor, 1)) (k : AW G M d c n K (pc + 1) ls (.long (x ||| y) :: st) h) : AW G M d c n K (pc) ls (.long y :: .long x :: st) h := by
  intro p l e R s m args below meth cd Q H locs cells slots L F h1 h2 hH hS hL
  exact lv_lor F.1 F.2.1 hd (k p l e R s m args below meth cd Q H locs cells slots L F h1 h2 hH hS hL)
theorem AW.lxor {G : Gd} {M : Mi} {d c n : Nat} {K : Ah → Option Value → Prop} {pc : Nat} {ls : List (Option Value)} {st : List Value} {h : Ah} {x y : Int64} (hd : decode M.2.1 pc = .ok (.lxor, 1)) (k : AW G M d c n K (pc + 1) ls (.long (x ^^^ y) :: st) h) : AW G M d c n K (pc) ls (.long y :: .long x :: st) h := by
  intro p l e R s m args below meth cd Q H locs cells slots L F h1 h2 hH hS hL
  exact lv_lxor F.1 F.2.1 hd (k p l e R s m args below meth cd Q H locs cells slots L F h1 h2 hH hS hL)
theorem AW.ldiv {G : Gd} {M : Mi} {d c n : Nat} {K : Ah → Option Value → Prop} {pc : Nat} {ls : List (Option Value)} {st : List Value} {h : Ah} {x y : Int64} (hd : decode M.2.1 pc = .ok (.ldiv, 1)) (hne : ¬ y = 0) (k : AW G M d c n K (pc + 1) ls (.long (x / y) :: st) h) : AW G M d c n K (pc) ls (.long y :: .long x :: st) h := by
  intro p l e R s m args below meth cd Q H locs cells slots L F h1 h2 hH hS hL
  exact lv_ldiv F.1 F.2.1 hd hne (k p l e R s m args below meth cd Q H locs cells slots L F h1 h2 hH hS hL)
theorem AW.lrem {G : Gd} {M : Mi} {d c n : Nat} {K : Ah → Option Value → Prop} {pc : Nat} {ls : List (Option Value)} {st : List Value} {h : Ah} {x y : Int64} (hd : decode M.2.1 pc = .ok (.lrem, 1)) (hne : ¬ y = 0) (k : AW G M d c n K (pc + 1) ls (.long (x - x / y * y) :: st) h) : AW G M d c n K (pc) ls (.long y :: .long x :: st) h := by
  intro p l e R s m args below meth cd Q H locs cells slots L F h1 h2 hH hS hL
  exact lv_lrem F.1 F.2.1 hd hne (k p l e R s m args below meth cd Q H locs cells slots L F h1 h2 hH hS hL)
theorem AW.lneg {G : Gd} {M : Mi} {d c n : Nat} {K : Ah → Option Value → Prop} {pc : Nat} {ls : List (Option Value)} {st : List Value} {h : Ah} {x : Int64} (hd : decode M.2.1 pc = .ok (.lneg, 1)) (k : AW G M d c n K (pc + 1) ls (.long (-x) :: st) h) : AW G M d c n K (pc) ls (.long x :: st) h := by
  intro p l e R s m args below meth cd Q H locs cells slots L F h1 h2 hH hS hL
  exact lv_lneg F.1 F.2.1 hd (k p l e R s m args below meth cd Q H locs cells slots L F h1 h2 hH hS hL)
theorem AW.lshl {G : Gd} {M : Mi} {d c n : Nat} {K : Ah → Option Value → Prop} {pc : Nat} {ls : List (Option Value)} {st : List Value} {h : Ah} {x : Int64} {y : Int32} (hd : decode M.2.1 pc = .ok (.lshl, 1)) (k : AW G M d c n K (pc + 1) ls (.long (x <<< (y.toInt64 &&& 63)) :: st) h) : AW G M d c n K (pc) ls (.int y :: .long x :: st) h := by
  intro p l e R s m args below meth cd Q H locs cells slots L F h1 h2 hH hS hL
  exact lv_lshl F.1 F.2.1 hd rfl (k p l e R s m args below meth cd Q H locs cells slots L F h1 h2 hH hS hL)
theorem AW.lshr {G : Gd} {M : Mi} {d c n : Nat} {K : Ah → Option Value → Prop} {pc : Nat} {ls : List (Option Value)} {st : List Value} {h : Ah} {x : Int64} {y : Int32} (hd : decode M.2.1 pc = .ok (.lshr, 1)) (k : AW G M d c n K (pc + 1) ls (.long (x >>> (y.toInt64 &&& 63)) :: st) h) : AW G M d c n K (pc) ls (.int y :: .long x :: st) h := by
  intro p l e R s m args below meth cd Q H locs cells slots L F h1 h2 hH hS hL
  exact lv_lshr F.1 F.2.1 hd rfl (k p l e R s m args below meth cd Q H locs cells slots L F h1 h2 hH hS hL)
theorem AW.lcmp {G : Gd} {M : Mi} {d c n : Nat} {K : Ah → Option Value → Prop} {pc : Nat} {ls : List (Option Value)} {st : List Value} {h : Ah} {x y : Int64} (hd : decode M.2.1 pc = .ok (.lcmp, 1)) (k : AW G M d c n K (pc + 1) ls (.int (lg_cmp x y) :: st) h) : AW G M d c n K (pc) ls (.long y :: .long x :: st) h := by
  intro p l e R s m args below meth cd Q H locs cells slots L F h1 h2 hH hS hL
  exact W.lcmp F.1 F.2.1 hd (k p l e R s m args below meth cd Q H locs cells slots L F h1 h2 hH hS hL)
theorem AW.i2l {G : Gd} {M : Mi} {d c n : Nat} {K : Ah → Option Value → Prop} {pc : Nat} {ls : List (Option Value)} {st : List Value} {h : Ah} {x : Int32} (hd : decode M.2.1 pc = .ok (.i2l, 1)) (k : AW G M d c n K (pc + 1) ls (.long x.toInt64 :: st) h) : AW G M d c n K (pc) ls (.int x :: st) h := by
  intro p l e R s m args below meth cd Q H locs cells slots L F h1 h2 hH hS hL
  exact lv_i2l F.1 F.2.1 hd rfl (k p l e R s m args below meth cd Q H locs cells slots L F h1 h2 hH hS hL)
theorem AW.l2i {G : Gd} {M : Mi} {d c n : Nat} {K : Ah → Option Value → Prop} {pc : Nat} {ls : List (Option Value)} {st : List Value} {h : Ah} {x : Int64} (hd : decode M.2.1 pc = .ok (.l2i, 1)) (k : AW G M d c n K (pc + 1) ls (.int x.toInt32 :: st) h) : AW G M d c n K (pc) ls (.long x :: st) h := by
  intro p l e R s m args below meth cd Q H locs cells slots L F h1 h2 hH hS hL
  exact lv_l2i F.1 F.2.1 hd rfl (k p l e R s m args below meth cd Q H locs cells slots L F h1 h2 hH hS hL)
theorem AW.i2b {G : Gd} {M : Mi} {d c n : Nat} {K : Ah → Option Value → Prop} {pc : Nat} {ls : List (Option Value)} {st : List Value} {h : Ah} {x : Int32} (hd : decode M.2.1 pc = .ok (.i2b, 1)) (k : AW G M d c n K (pc + 1) ls (.int x.toInt8.toInt32 :: st) h) : AW G M d c n K (pc) ls (.int x :: st) h := by
  intro p l e R s m args below meth cd Q H locs cells slots L F h1 h2 hH hS hL
  exact lv_i2b F.1 F.2.1 hd rfl (k p l e R s m args below meth cd Q H locs cells slots L F h1 h2 hH hS hL)
theorem AW.i2s {G : Gd} {M : Mi} {d c n : Nat} {K : Ah → Option Value → Prop} {pc : Nat} {ls : List (Option Value)} {st : List Value} {h : Ah} {x : Int32} (hd : decode M.2.1 pc = .ok (.i2s, 1)) (k : AW G M d c n K (pc + 1) ls (.int x.toInt16.toInt32 :: st) h) : AW G M d c n K (pc) ls (.int x :: st) h := by
  intro p l e R s m args below meth cd Q H locs cells slots L F h1 h2 hH hS hL
  exact lv_i2s F.1 F.2.1 hd rfl (k p l e R s m args below meth cd Q H locs cells slots L F h1 h2 hH hS hL)
theorem AW.i2c {G : Gd} {M : Mi} {d c n : Nat} {K : Ah → Option Value → Prop} {pc : Nat} {ls : List (Option Value)} {st : List Value} {h : Ah} {x : Int32} (hd : decode M.2.1 pc = .ok (.i2c, 1)) (k : AW G M d c n K (pc + 1) ls (.int (x.toUInt32 % 65536).toInt32 :: st) h) : AW G M d c n K (pc) ls (.int x :: st) h := by
  intro p l e R s m args below meth cd Q H locs cells slots L F h1 h2 hH hS hL
  exact lv_i2c F.1 F.2.1 hd rfl (k p l e R s m args below meth cd Q H locs cells slots L F h1 h2 hH hS hL)
theorem AW.dup {G : Gd} {M : Mi} {d c n : Nat} {K : Ah → Option Value → Prop} {pc : Nat} {ls : List (Option Value)} {st : List Value} {h : Ah} {a : Value} (hd : decode M.2.1 pc = .ok (.dup, 1)) (ha : a.category = 1) (k : AW G M d c n K (pc + 1) ls (a :: a :: st) h) : AW G M d c n K (pc) ls (a :: st) h := by
  intro p l e R s m args below meth cd Q H locs cells slots L F h1 h2 hH hS hL
  exact lv_dup F.1 F.2.1 hd ((cv_cat G a).trans ha) (k p l e R s m args below meth cd Q H locs cells slots L F h1 h2 hH hS hL)
theorem AW.pop {G : Gd} {M : Mi} {d c n : Nat} {K : Ah → Option Value → Prop} {pc : Nat} {ls : List (Option Value)} {st : List Value} {h : Ah} {a : Value} (hd : decode M.2.1 pc = .ok (.pop, 1)) (ha : a.category = 1) (k : AW G M d c n K (pc + 1) ls (st) h) : AW G M d c n K (pc) ls (a :: st) h := by
  intro p l e R s m args below meth cd Q H locs cells slots L F h1 h2 hH hS hL
  exact lv_pop F.1 F.2.1 hd ((cv_cat G a).trans ha) (k p l e R s m args below meth cd Q H locs cells slots L F h1 h2 hH hS hL)
theorem AW.dup_x1 {G : Gd} {M : Mi} {d c n : Nat} {K : Ah → Option Value → Prop} {pc : Nat} {ls : List (Option Value)} {st : List Value} {h : Ah} {a b : Value} (hd : decode M.2.1 pc = .ok (.dup_x1, 1)) (ha : a.category = 1) (hb : b.category = 1) (k : AW G M d c n K (pc + 1) ls (a :: b :: a :: st) h) : AW G M d c n K (pc) ls (a :: b :: st) h := by
  intro p l e R s m args below meth cd Q H locs cells slots L F h1 h2 hH hS hL
  exact lv_dup_x1 F.1 F.2.1 hd ((cv_cat G a).trans ha) ((cv_cat G b).trans hb) (k p l e R s m args below meth cd Q H locs cells slots L F h1 h2 hH hS hL)
theorem AW.dup2 {G : Gd} {M : Mi} {d c n : Nat} {K : Ah → Option Value → Prop} {pc : Nat} {ls : List (Option Value)} {st : List Value} {h : Ah} {a b : Value} (hd : decode M.2.1 pc = .ok (.dup2, 1)) (ha : a.category = 1) (hb : b.category = 1) (k : AW G M d c n K (pc + 1) ls (a :: b :: a :: b :: st) h) : AW G M d c n K (pc) ls (a :: b :: st) h := by
  intro p l e R s m args below meth cd Q H locs cells slots L F h1 h2 hH hS hL
  exact lv_dup2_11 F.1 F.2.1 hd ((cv_cat G a).trans ha) ((cv_cat G b).trans hb) (k p l e R s m args below meth cd Q H locs cells slots L F h1 h2 hH hS hL)
theorem AW.if_eq {G : Gd} {M : Mi} {d c n : Nat} {K : Ah → Option Value → Prop} {pc : Nat} {ls : List (Option Value)} {st : List Value} {h : Ah} {x : Int32} {off : Int} {tgt : Nat} (hd : decode M.2.1 pc = .ok (.ifCond .eq off, 3)) (ht : (pc : Int) + off = (tgt : Int)) (kt : x = 0 → AW G M d c n K (tgt) ls (st) h) (kf : ¬ x = 0 → AW G M d c n K (pc + 3) ls (st) h) : AW G M d c n K (pc) ls (.int x :: st) h := by
  intro p l e R s m args below meth cd Q H locs cells slots L F h1 h2 hH hS hL
  exact lv_if_eq F.1 F.2.1 hd ht (fun q => kt q p l e R s m args below meth cd Q H locs cells slots L F h1 h2 hH hS hL) (fun q => kf q p l e R s m args below meth cd Q H locs cells slots L F h1 h2 hH hS hL)
theorem AW.icmp_eq {G : Gd} {M : Mi} {d c n : Nat} {K : Ah → Option Value → Prop} {pc : Nat} {ls : List (Option Value)} {st : List Value} {h : Ah} {x y : Int32} {off : Int} {tgt : Nat} (hd : decode M.2.1 pc = .ok (.if_icmp .eq off, 3)) (ht : (pc : Int) + off = (tgt : Int)) (kt : x = y → AW G M d c n K (tgt) ls (st) h) (kf : ¬ x = y → AW G M d c n K (pc + 3) ls (st) h) : AW G M d c n K (pc) ls (.int y :: .int x :: st) h := by
  intro p l e R s m args below meth cd Q H locs cells slots L F h1 h2 hH hS hL
  exact lv_icmp_eq F.1 F.2.1 hd ht (fun q => kt q p l e R s m args below meth cd Q H locs cells slots L F h1 h2 hH hS hL) (fun q => kf q p l e R s m args below meth cd Q H locs cells slots L F h1 h2 hH hS hL)
theorem AW.if_ne {G : Gd} {M : Mi} {d c n : Nat} {K : Ah → Option Value → Prop} {pc : Nat} {ls : List (Option Value)} {st : List Value} {h : Ah} {x : Int32} {off : Int} {tgt : Nat} (hd : decode M.2.1 pc = .ok (.ifCond .ne off, 3)) (ht : (pc : Int) + off = (tgt : Int)) (kt : ¬ x = 0 → AW G M d c n K (tgt) ls (st) h) (kf : x = 0 → AW G M d c n K (pc + 3) ls (st) h) : AW G M d c n K (pc) ls (.int x :: st) h := by
  intro p l e R s m args below meth cd Q H locs cells slots L F h1 h2 hH hS hL
  exact lv_if_ne F.1 F.2.1 hd ht (fun q => kt q p l e R s m args below meth cd Q H locs cells slots L F h1 h2 hH hS hL) (fun q => kf q p l e R s m args below meth cd Q H locs cells slots L F h1 h2 hH hS hL)
theorem AW.icmp_ne {G : Gd} {M : Mi} {d c n : Nat} {K : Ah → Option Value → Prop} {pc : Nat} {ls : List (Option Value)} {st : List Value} {h : Ah} {x y : Int32} {off : Int} {tgt : Nat} (hd : decode M.2.1 pc = .ok (.if_icmp .ne off, 3)) (ht : (pc : Int) + off = (tgt : Int)) (kt : ¬ x = y → AW G M d c n K (tgt) ls (st) h) (kf : x = y → AW G M d c n K (pc + 3) ls (st) h) : AW G M d c n K (pc) ls (.int y :: .int x :: st) h := by
  intro p l e R s m args below meth cd Q H locs cells slots L F h1 h2 hH hS hL
  exact lv_icmp_ne F.1 F.2.1 hd ht (fun q => kt q p l e R s m args below meth cd Q H locs cells slots L F h1 h2 hH hS hL) (fun q => kf q p l e R s m args below meth cd Q H locs cells slots L F h1 h2 hH hS hL)
theorem AW.if_lt {G : Gd} {M : Mi} {d c n : Nat} {K : Ah → Option Value → Prop} {pc : Nat} {ls : List (Option Value)} {st : List Value} {h : Ah} {x : Int32} {off : Int} {tgt : Nat} (hd : decode M.2.1 pc = .ok (.ifCond .lt off, 3)) (ht : (pc : Int) + off = (tgt : Int)) (kt : x < 0 → AW G M d c n K (tgt) ls (st) h) (kf : ¬ x < 0 → AW G M d c n K (pc + 3) ls (st) h) : AW G M d c n K (pc) ls (.int x :: st) h := by
  intro p l e R s m args below meth cd Q H locs cells slots L F h1 h2 hH hS hL
  exact lv_if_lt F.1 F.2.1 hd ht (fun q => kt q p l e R s m args below meth cd Q H locs cells slots L F h1 h2 hH hS hL) (fun q => kf q p l e R s m args below meth cd Q H locs cells slots L F h1 h2 hH hS hL)
theorem AW.icmp_lt {G : Gd} {M : Mi} {d c n : Nat} {K : Ah → Option Value → Prop} {pc : Nat} {ls : List (Option Value)} {st : List Value} {h : Ah} {x y : Int32} {off : Int} {tgt : Nat} (hd : decode M.2.1 pc = .ok (.if_icmp .lt off, 3)) (ht : (pc : Int) + off = (tgt : Int)) (kt : x < y → AW G M d c n K (tgt) ls (st) h) (kf : ¬ x < y → AW G M d c n K (pc + 3) ls (st) h) : AW G M d c n K (pc) ls (.int y :: .int x :: st) h := by
  intro p l e R s m args below meth cd Q H locs cells slots L F h1 h2 hH hS hL
  exact lv_icmp_lt F.1 F.2.1 hd ht (fun q => kt q p l e R s m args below meth cd Q H locs cells slots L F h1 h2 hH hS hL) (fun q => kf q p l e R s m args below meth cd Q H locs cells slots L F h1 h2 hH hS hL)
theorem AW.if_ge {G : Gd} {M : Mi} {d c n : Nat} {K : Ah → Option Value → Prop} {pc : Nat} {ls : List (Option Value)} {st : List Value} {h : Ah} {x : Int32} {off : Int} {tgt : Nat} (hd : decode M.2.1 pc = .ok (.ifCond .ge off, 3)) (ht : (pc : Int) + off = (tgt : Int)) (kt : 0 ≤ x → AW G M d c n K (tgt) ls (st) h) (kf : ¬ 0 ≤ x → AW G M d c n K (pc + 3) ls (st) h) : AW G M d c n K (pc) ls (.int x :: st) h := by
  intro p l e R s m args below meth cd Q H locs cells slots L F h1 h2 hH hS hL
  exact lv_if_ge F.1 F.2.1 hd ht (fun q => kt q p l e R s m args below meth cd Q H locs cells slots L F h1 h2 hH hS hL) (fun q => kf q p l e R s m args below meth cd Q H locs cells slots L F h1 h2 hH hS hL)
theorem AW.icmp_ge {G : Gd} {M : Mi} {d c n : Nat} {K : Ah → Option Value → Prop} {pc : Nat} {ls : List (Option Value)} {st : List Value} {h : Ah} {x y : Int32} {off : Int} {tgt : Nat} (hd : decode M.2.1 pc = .ok (.if_icmp .ge off, 3)) (ht : (pc : Int) + off = (tgt : Int)) (kt : y ≤ x → AW G M d c n K (tgt) ls (st) h) (kf : ¬ y ≤ x → AW G M d c n K (pc + 3) ls (st) h) : AW G M d c n K (pc) ls (.int y :: .int x :: st) h := by
  intro p l e R s m args below meth cd Q H locs cells slots L F h1 h2 hH hS hL
  exact lv_icmp_ge F.1 F.2.1 hd ht (fun q => kt q p l e R s m args below meth cd Q H locs cells slots L F h1 h2 hH hS hL) (fun q => kf q p l e R s m args below meth cd Q H locs cells slots L F h1 h2 hH hS hL)
theorem AW.if_gt {G : Gd} {M : Mi} {d c n : Nat} {K : Ah → Option Value → Prop} {pc : Nat} {ls : List (Option Value)} {st : List Value} {h : Ah} {x : Int32} {off : Int} {tgt : Nat} (hd : decode M.2.1 pc = .ok (.ifCond .gt off, 3)) (ht : (pc : Int) + off = (tgt : Int)) (kt : 0 < x → AW G M d c n K (tgt) ls (st) h) (kf : ¬ 0 < x → AW G M d c n K (pc + 3) ls (st) h) : AW G M d c n K (pc) ls (.int x :: st) h := by
  intro p l e R s m args below meth cd Q H locs cells slots L F h1 h2 hH hS hL
  exact lv_if_gt F.1 F.2.1 hd ht (fun q => kt q p l e R s m args below meth cd Q H locs cells slots L F h1 h2 hH hS hL) (fun q => kf q p l e R s m args below meth cd Q H locs cells slots L F h1 h2 hH hS hL)
theorem AW.icmp_gt {G : Gd} {M : Mi} {d c n : Nat} {K : Ah → Option Value → Prop} {pc : Nat} {ls : List (Option Value)} {st : List Value} {h : Ah} {x y : Int32} {off : Int} {tgt : Nat} (hd : decode M.2.1 pc = .ok (.if_icmp .gt off, 3)) (ht : (pc : Int) + off = (tgt : Int)) (kt : y < x → AW G M d c n K (tgt) ls (st) h) (kf : ¬ y < x → AW G M d c n K (pc + 3) ls (st) h) : AW G M d c n K (pc) ls (.int y :: .int x :: st) h := by
  intro p l e R s m args below meth cd Q H locs cells slots L F h1 h2 hH hS hL
  exact lv_icmp_gt F.1 F.2.1 hd ht (fun q => kt q p l e R s m args below meth cd Q H locs cells slots L F h1 h2 hH hS hL) (fun q => kf q p l e R s m args below meth cd Q H locs cells slots L F h1 h2 hH hS hL)
theorem AW.if_le {G : Gd} {M : Mi} {d c n : Nat} {K : Ah → Option Value → Prop} {pc : Nat} {ls : List (Option Value)} {st : List Value} {h : Ah} {x : Int32} {off : Int} {tgt : Nat} (hd : decode M.2.1 pc = .ok (.ifCond .le off, 3)) (ht : (pc : Int) + off = (tgt : Int)) (kt : x ≤ 0 → AW G M d c n K (tgt) ls (st) h) (kf : ¬ x ≤ 0 → AW G M d c n K (pc + 3) ls (st) h) : AW G M d c n K (pc) ls (.int x :: st) h := by
  intro p l e R s m args below meth cd Q H locs cells slots L F h1 h2 hH hS hL
  exact lv_if_le F.1 F.2.1 hd ht (fun q => kt q p l e R s m args below meth cd Q H locs cells slots L F h1 h2 hH hS hL) (fun q => kf q p l e R s m args below meth cd Q H locs cells slots L F h1 h2 hH hS hL)
theorem AW.icmp_le {G : Gd} {M : Mi} {d c n : Nat} {K : Ah → Option Value → Prop} {pc : Nat} {ls : List (Option Value)} {st : List Value} {h : Ah} {x y : Int32} {off : Int} {tgt : Nat} (hd : decode M.2.1 pc = .ok (.if_icmp .le off, 3)) (ht : (pc : Int) + off = (tgt : Int)) (kt : x ≤ y → AW G M d c n K (tgt) ls (st) h) (kf : ¬ x ≤ y → AW G M d c n K (pc + 3) ls (st) h) : AW G M d c n K (pc) ls (.int y :: .int x :: st) h := by
  intro p l e R s m args below meth cd Q H locs cells slots L F h1 h2 hH hS hL
  exact lv_icmp_le F.1 F.2.1 hd ht (fun q => kt q p l e R s m args below meth cd Q H locs cells slots L F h1 h2 hH hS hL) (fun q => kf q p l e R s m args below meth cd Q H locs cells slots L F h1 h2 hH hS hL)
theorem AW.goto {G : Gd} {M : Mi} {d c n : Nat} {K : Ah → Option Value → Prop} {pc : Nat} {ls : List (Option Value)} {st : List Value} {h : Ah} {off : Int} {tgt : Nat} (hd : decode M.2.1 pc = .ok (.goto off, 3)) (ht : (pc : Int) + off = (tgt : Int)) (k : AW G M d c n K (tgt) ls (st) h) : AW G M d c n K (pc) ls (st) h := by
  intro p l e R s m args below meth cd Q H locs cells slots L F h1 h2 hH hS hL
  exact lv_goto F.1 F.2.1 hd ht (k p l e R s m args below meth cd Q H locs cells slots L F h1 h2 hH hS hL)
theorem AW.ifnull {G : Gd} {M : Mi} {d c n : Nat} {K : Ah → Option Value → Prop} {pc : Nat} {ls : List (Option Value)} {st : List Value} {h : Ah} {o : Option Nat} {off : Int} {tgt : Nat} (hd : decode M.2.1 pc = .ok (.ifnull off, 3)) (ht : (pc : Int) + off = (tgt : Int)) (kt : o = none → AW G M d c n K (tgt) ls (st) h) (kf : ∀ a, o = some a → AW G M d c n K (pc + 3) ls (st) h) : AW G M d c n K (pc) ls (va_rf o :: st) h := by
  intro p l e R s m args below meth cd Q H locs cells slots L F h1 h2 hH hS hL
  cases o with
  | none => exact lv_ifnullN F.1 F.2.1 hd ht (kt rfl p l e R s m args below meth cd Q H locs cells slots L F h1 h2 hH hS hL)
  | some a => exact lv_ifnull F.1 F.2.1 hd (kf a rfl p l e R s m args below meth cd Q H locs cells slots L F h1 h2 hH hS hL)
theorem AW.ifnonnull {G : Gd} {M : Mi} {d c n : Nat} {K : Ah → Option Value → Prop} {pc : Nat} {ls : List (Option Value)} {st : List Value} {h : Ah} {o : Option Nat} {off : Int} {tgt : Nat} (hd : decode M.2.1 pc = .ok (.ifnonnull off, 3)) (ht : (pc : Int) + off = (tgt : Int)) (kt : ∀ a, o = some a → AW G M d c n K (tgt) ls (st) h) (kf : o = none → AW G M d c n K (pc + 3) ls (st) h) : AW G M d c n K (pc) ls (va_rf o :: st) h := by
  intro p l e R s m args below meth cd Q H locs cells slots L F h1 h2 hH hS hL
  cases o with
  | none => exact lv_ifnonnullN F.1 F.2.1 hd (kf rfl p l e R s m args below meth cd Q H locs cells slots L F h1 h2 hH hS hL)
  | some a => exact lv_ifnonnull F.1 F.2.1 hd ht (kt a rfl p l e R s m args below meth cd Q H locs cells slots L F h1 h2 hH hS hL)
theorem AW.swOut {G : Gd} {M : Mi} {d c n : Nat} {K : Ah → Option Value → Prop} {pc : Nat} {ls : List (Option Value)} {st : List Value} {h : Ah} {x : Int32} {df lo hi : Int} {offs : Array Int} {len tgt : Nat} (hd : decode M.2.1 pc = .ok (.tableswitch df lo hi offs, len)) (hx : x.toInt < lo ∨ hi < x.toInt) (ht : (pc : Int) + df = (tgt : Int)) (k : AW G M d c n K (tgt) ls (st) h) : AW G M d c n K (pc) ls (.int x :: st) h := by
  intro p l e R s m args below meth cd Q H locs cells slots L F h1 h2 hH hS hL
  exact lv_tableOut F.1 F.2.1 hd hx ht (k p l e R s m args below meth cd Q H locs cells slots L F h1 h2 hH hS hL)
theorem AW.swIn {G : Gd} {M : Mi} {d c n : Nat} {K : Ah → Option Value → Prop} {pc : Nat} {ls : List (Option Value)} {st : List Value} {h : Ah} {x : Int32} {df lo hi : Int} {offs : Array Int} {len tgt : Nat} {off : Int} (hd : decode M.2.1 pc = .ok (.tableswitch df lo hi offs, len)) (ha : ¬ x.toInt < lo) (hb : ¬ hi < x.toInt) (ho : offs[(x.toInt - lo).toNat]? = some off) (ht : (pc : Int) + off = (tgt : Int)) (k : AW G M d c n K (tgt) ls (st) h) : AW G M d c n K (pc) ls (.int x :: st) h := by
  intro p l e R s m args below meth cd Q H locs cells slots L F h1 h2 hH hS hL
  exact lv_tableIn F.1 F.2.1 hd ha hb ho ht (k p l e R s m args below meth cd Q H locs cells slots L F h1 h2 hH hS hL)
theorem AW.vret {G : Gd} {M : Mi} {d c n : Nat} {K : Ah → Option Value → Prop} {pc : Nat} {ls : List (Option Value)} {st : List Value} {h : Ah} (hd : decode M.2.1 pc = .ok (.return_, 1)) (hr : M.2.2.2 = none) (k : K h (none)) : AW G M d c n K (pc) ls ([]) h := by
  intro p l e R s m args below meth cd Q H locs cells slots L F h1 h2 hH hS hL
  refine W.widen (Nat.le_trans (Nat.le_add_right _ _) h1) (Nat.le_trans (Nat.le_add_right _ _) h2) ?_
  exact F.2.2.2.2.2.2.2.2.2.2 _ h H locs pc L (Or.inl ⟨rfl, hd, hr⟩) k hH hS
theorem AW.iret {G : Gd} {M : Mi} {d c n : Nat} {K : Ah → Option Value → Prop} {pc : Nat} {ls : List (Option Value)} {st : List Value} {h : Ah} {x : Int32} (hd : decode M.2.1 pc = .ok (.ireturn, 1)) (hr : M.2.2.2 = some .int) (k : K h (some (.int x))) : AW G M d c n K (pc) ls ([.int x]) h := by
  intro p l e R s m args below meth cd Q H locs cells slots L F h1 h2 hH hS hL
  refine W.widen (Nat.le_trans (Nat.le_add_right _ _) h1) (Nat.le_trans (Nat.le_add_right _ _) h2) ?_
  exact F.2.2.2.2.2.2.2.2.2.2 _ h H locs pc L (Or.inr (Or.inl ⟨x, .int, rfl, hd, hr, rfl⟩)) k hH hS
theorem AW.zret {G : Gd} {M : Mi} {d c n : Nat} {K : Ah → Option Value → Prop} {pc : Nat} {ls : List (Option Value)} {st : List Value} {h : Ah} {x : Int32} (hd : decode M.2.1 pc = .ok (.ireturn, 1)) (hr : M.2.2.2 = some .boolean) (hx : x = 0 ∨ x = 1) (k : K h (some (.int x))) : AW G M d c n K (pc) ls ([.int x]) h := by
  intro p l e R s m args below meth cd Q H locs cells slots L F h1 h2 hH hS hL
  refine W.widen (Nat.le_trans (Nat.le_add_right _ _) h1) (Nat.le_trans (Nat.le_add_right _ _) h2) ?_
  exact F.2.2.2.2.2.2.2.2.2.2 _ h H locs pc L (Or.inr (Or.inl ⟨x, .boolean, rfl, hd, hr, by rcases hx with rfl | rfl <;> rfl⟩)) k hH hS
theorem AW.cret {G : Gd} {M : Mi} {d c n : Nat} {K : Ah → Option Value → Prop} {pc : Nat} {ls : List (Option Value)} {st : List Value} {h : Ah} {x : Int32} (hd : decode M.2.1 pc = .ok (.ireturn, 1)) (hr : M.2.2.2 = some .char) (hx : narrow .char (.int x) = .int x) (k : K h (some (.int x))) : AW G M d c n K (pc) ls ([.int x]) h := by
  intro p l e R s m args below meth cd Q H locs cells slots L F h1 h2 hH hS hL
  refine W.widen (Nat.le_trans (Nat.le_add_right _ _) h1) (Nat.le_trans (Nat.le_add_right _ _) h2) ?_
  exact F.2.2.2.2.2.2.2.2.2.2 _ h H locs pc L (Or.inr (Or.inl ⟨x, .char, rfl, hd, hr, hx⟩)) k hH hS
theorem AW.bret {G : Gd} {M : Mi} {d c n : Nat} {K : Ah → Option Value → Prop} {pc : Nat} {ls : List (Option Value)} {st : List Value} {h : Ah} {x : Int32} (hd : decode M.2.1 pc = .ok (.ireturn, 1)) (hr : M.2.2.2 = some .byte) (hx : narrow .byte (.int x) = .int x) (k : K h (some (.int x))) : AW G M d c n K (pc) ls ([.int x]) h := by
  intro p l e R s m args below meth cd Q H locs cells slots L F h1 h2 hH hS hL
  refine W.widen (Nat.le_trans (Nat.le_add_right _ _) h1) (Nat.le_trans (Nat.le_add_right _ _) h2) ?_
  exact F.2.2.2.2.2.2.2.2.2.2 _ h H locs pc L (Or.inr (Or.inl ⟨x, .byte, rfl, hd, hr, hx⟩)) k hH hS
theorem AW.lret {G : Gd} {M : Mi} {d c n : Nat} {K : Ah → Option Value → Prop} {pc : Nat} {ls : List (Option Value)} {st : List Value} {h : Ah} {x : Int64} (hd : decode M.2.1 pc = .ok (.lreturn, 1)) (hr : M.2.2.2 = some .long) (k : K h (some (.long x))) : AW G M d c n K (pc) ls ([.long x]) h := by
  intro p l e R s m args below meth cd Q H locs cells slots L F h1 h2 hH hS hL
  refine W.widen (Nat.le_trans (Nat.le_add_right _ _) h1) (Nat.le_trans (Nat.le_add_right _ _) h2) ?_
  exact F.2.2.2.2.2.2.2.2.2.2 _ h H locs pc L (Or.inr (Or.inr (Or.inl ⟨x, rfl, hd, hr⟩))) k hH hS
theorem AW.aret {G : Gd} {M : Mi} {d c n : Nat} {K : Ah → Option Value → Prop} {pc : Nat} {ls : List (Option Value)} {st : List Value} {h : Ah} {o : Option Nat} (hd : decode M.2.1 pc = .ok (.areturn, 1)) (hr : (∃ n, M.2.2.2 = some (.object n)) ∨ ∃ t, M.2.2.2 = some (.array t)) (k : K h (some (va_rf o))) : AW G M d c n K (pc) ls ([va_rf o]) h := by
  intro p l e R s m args below meth cd Q H locs cells slots L F h1 h2 hH hS hL
  refine W.widen (Nat.le_trans (Nat.le_add_right _ _) h1) (Nat.le_trans (Nat.le_add_right _ _) h2) ?_
  exact F.2.2.2.2.2.2.2.2.2.2 _ h H locs pc L (Or.inr (Or.inr (Or.inr ⟨o, rfl, hd, hr⟩))) k hH hS
