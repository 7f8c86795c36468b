/-! ===== rows over a heap in its parts: ints I, longs J, shape ρ (references, kinds, count) ===== -/
abbrev Rh : Type := (Nat → Nat → Option Nat) × (Nat → Nat × Nat) × Nat
def u2 {α : Type} (f : Nat → Nat → α) (a k : Nat) (x : α) : Nat → Nat → α := up f a (up (f a) k x)
theorem u2_ap {α : Type} (f : Nat → Nat → α) (a k b j : Nat) (x : α) : u2 f a k x b j = if b = a then (if j = k then x else f b j) else f b j := by
  unfold u2 up
  by_cases h : b = a
  · subst h; rw [if_pos rfl, if_pos rfl]
  · rw [if_neg h, if_neg h]
theorem u2_row {α : Type} (f : Nat → Nat → α) (a k b : Nat) (x : α) : u2 f a k x b = if b = a then up (f b) k x else f b := by
  unfold u2
  rw [up_ap]
  by_cases h : b = a
  · subst h; rfl
  · rw [if_neg h, if_neg h]
abbrev tn (x : Int32) : Nat := x.toNatClampNeg
def bnd {α β : Type} (x : α) (f : α → β) : β := f x
/-- less is known of the locals -/
def lesl : List (Option Value) → List (Option Value) → Prop
  | [], _ => True
  | none :: r, [] => lesl r []
  | none :: r, _ :: r2 => lesl r r2
  | some _ :: _, [] => False
  | some v :: r, x :: r2 => x = some v ∧ lesl r r2
theorem lesl_nil : ∀ (r : List (Option Value)), lesl r [] → ∀ (i : Nat) (v : Value), ¬ r[i]? = some (some v)
  | [], _, i, v, h => by simp at h
  | none :: r, hs, i, v, h => by
    cases i with
    | zero => rw [List.getElem?_cons_zero] at h; cases h
    | succ i => rw [List.getElem?_cons_succ] at h; exact lesl_nil r hs i v h
  | some _ :: _, hs, _, _, _ => hs.elim
theorem lesl_of : ∀ (l' l : List (Option Value)), lesl l' l → ∀ (i : Nat) (v : Value), l'[i]? = some (some v) → l[i]? = some (some v)
  | [], _, _, i, v, h => by simp at h
  | none :: r, [], hs, i, v, h => absurd h (lesl_nil (none :: r) hs i v)
  | none :: r, x :: r2, hs, i, v, h => by
    cases i with
    | zero => rw [List.getElem?_cons_zero] at h; cases h
    | succ i => rw [List.getElem?_cons_succ] at h ⊢; exact lesl_of r r2 hs i v h
  | some w :: r, [], hs, i, v, h => hs.elim
  | some w :: r, x :: r2, hs, i, v, h => by
    cases i with
    | zero => rw [List.getElem?_cons_zero] at h ⊢; cases h; rw [hs.1]
    | succ i => rw [List.getElem?_cons_succ] at h ⊢; exact lesl_of r r2 hs.2 i v h
theorem AW.weak {G : Gd} {M : Mi} {d c n : Nat} {K : Ah → Option Value → Prop} {pc : Nat} {ls : List (Option Value)} {st : List Value} {h : Ah} (ls' : List (Option Value)) (hs : lesl ls' ls) (k : AW G M d c n K pc ls' st h) : AW G M d c n K pc ls st h := by
  intro p l e R s m args below meth cd Q H locs cells slots L F h1 h2 hH hS hL
  exact k p l e R s m args below meth cd Q H locs cells slots L F h1 h2 hH hS ⟨hL.1, hL.2.1, fun i v q => hL.2.2 i v (lesl_of ls' ls hs i v q)⟩
theorem b2_t {P : Prop} {q : Decidable P} (h : ¬ (if P then (1 : Int32) else 0) = 0) : P := Decidable.byContradiction fun z => h (if_neg z)
theorem b2_f {P : Prop} {q : Decidable P} (h : (if P then (1 : Int32) else 0) = 0) : ¬ P := fun z => by rw [if_pos z] at h; cases h
theorem rf_some {o : Option Nat} {b : Nat} (h : o = some b) : va_rf o = .ref b := by rw [h]; rfl
section TUP
variable {G : Gd} {M : Mi} {d c n : Nat} {K : Ah → Option Value → Prop} {pc : Nat} {ls : List (Option Value)} {st : List Value} {I : Nat → Nat → Int32} {J : Nat → Nat → Int64} {ρ : Rh}
theorem TW.getI {a ix ci k : Nat} {y : FieldType} {fin : Bool} {x : Int32} (hf : FRef M.1.cls ix ci k 0 y fin) (hk : ρ.2.1 a = (0, ci)) (hv : I a k = x) (hd : decode M.2.1 pc = .ok (.getfield ix, 3)) (kk : AW G M d c n K (pc + 3) ls (.int x :: st) (I, J, ρ)) : AW G M d c n K pc ls (.ref a :: st) (I, J, ρ) := AW.getI hf hk hv hd kk
theorem TW.getR {a ix ci k : Nat} {y : FieldType} {fin : Bool} {v : Value} (hf : FRef M.1.cls ix ci k 1 y fin) (hk : ρ.2.1 a = (0, ci)) (hv : va_rf (ρ.1 a k) = v) (hd : decode M.2.1 pc = .ok (.getfield ix, 3)) (kk : AW G M d c n K (pc + 3) ls (v :: st) (I, J, ρ)) : AW G M d c n K pc ls (.ref a :: st) (I, J, ρ) := AW.getR hf hk hv hd kk
theorem TW.putI {a ix ci k : Nat} {fin : Bool} {x : Int32} (hf : FRef M.1.cls ix ci k 0 .int fin) (hk : ρ.2.1 a = (0, ci)) (hfin : fin = false ∨ (M.1.name = "<init>" ∧ FOwn M.1.cls ci k)) (hd : decode M.2.1 pc = .ok (.putfield ix, 3)) (kk : AW G M d c n K (pc + 3) ls st (u2 I a k x, J, ρ)) : AW G M d c n K pc ls (.int x :: .ref a :: st) (I, J, ρ) := AW.putI hf hk hfin hd kk
theorem TW.putZ {a ix ci k : Nat} {fin : Bool} {x : Int32} (hf : FRef M.1.cls ix ci k 0 .boolean fin) (hk : ρ.2.1 a = (0, ci)) (hx : x = 0 ∨ x = 1) (hfin : fin = false ∨ (M.1.name = "<init>" ∧ FOwn M.1.cls ci k)) (hd : decode M.2.1 pc = .ok (.putfield ix, 3)) (kk : AW G M d c n K (pc + 3) ls st (u2 I a k x, J, ρ)) : AW G M d c n K pc ls (.int x :: .ref a :: st) (I, J, ρ) := AW.putZ hf hk hx hfin hd kk
theorem TW.putR {a ix ci k : Nat} {y : FieldType} {fin : Bool} {o : Option Nat} {v : Value} (hf : FRef M.1.cls ix ci k 1 y fin) (hk : ρ.2.1 a = (0, ci)) (hv : va_rf o = v) (hfin : fin = false ∨ (M.1.name = "<init>" ∧ FOwn M.1.cls ci k)) (hd : decode M.2.1 pc = .ok (.putfield ix, 3)) (kk : AW G M d c n K (pc + 3) ls st (I, J, (u2 ρ.1 a k o, ρ.2))) : AW G M d c n K pc ls (v :: .ref a :: st) (I, J, ρ) := AW.putR hf hk hv hfin hd kk
theorem TW.iald {a N : Nat} {i x : Int32} (hk : ρ.2.1 a = (1, N)) (hin : vp_in i N) (hv : I a (tn i) = x) (hd : decode M.2.1 pc = .ok (.iaload, 1)) (kk : AW G M d c n K (pc + 1) ls (.int x :: st) (I, J, ρ)) : AW G M d c n K pc ls (.int i :: .ref a :: st) (I, J, ρ) := AW.iald hk hin hv hd kk
theorem TW.bald {a N : Nat} {i x : Int32} (hk : ρ.2.1 a = (3, N)) (hin : vp_in i N) (hv : I a (tn i) = x) (hd : decode M.2.1 pc = .ok (.baload, 1)) (kk : AW G M d c n K (pc + 1) ls (.int x :: st) (I, J, ρ)) : AW G M d c n K pc ls (.int i :: .ref a :: st) (I, J, ρ) := AW.bald hk hin hv hd kk
theorem TW.lald {a N : Nat} {i : Int32} {x : Int64} (hk : ρ.2.1 a = (2, N)) (hin : vp_in i N) (hv : J a (tn i) = x) (hd : decode M.2.1 pc = .ok (.laload, 1)) (kk : AW G M d c n K (pc + 1) ls (.long x :: st) (I, J, ρ)) : AW G M d c n K pc ls (.int i :: .ref a :: st) (I, J, ρ) := AW.lald hk hin hv hd kk
theorem TW.aald {a t N : Nat} {i : Int32} {v : Value} (hk : ρ.2.1 a = (t + 4, N)) (ht : t ≤ 3) (hin : vp_in i N) (hv : va_rf (ρ.1 a (tn i)) = v) (hd : decode M.2.1 pc = .ok (.aaload, 1)) (kk : AW G M d c n K (pc + 1) ls (v :: st) (I, J, ρ)) : AW G M d c n K pc ls (.int i :: .ref a :: st) (I, J, ρ) := AW.aald hk ht hin hv hd kk
theorem TW.iast {a N : Nat} {i x : Int32} (hk : ρ.2.1 a = (1, N)) (hin : vp_in i N) (hd : decode M.2.1 pc = .ok (.iastore, 1)) (kk : AW G M d c n K (pc + 1) ls st (u2 I a (tn i) x, J, ρ)) : AW G M d c n K pc ls (.int x :: .int i :: .ref a :: st) (I, J, ρ) := AW.iast hk hin hd kk
theorem TW.bast {a N : Nat} {i x : Int32} (hk : ρ.2.1 a = (3, N)) (hin : vp_in i N) (hd : decode M.2.1 pc = .ok (.bastore, 1)) (kk : AW G M d c n K (pc + 1) ls st (u2 I a (tn i) x.toInt8.toInt32, J, ρ)) : AW G M d c n K pc ls (.int x :: .int i :: .ref a :: st) (I, J, ρ) := AW.bast hk hin hd kk
theorem TW.last {a N : Nat} {i : Int32} {x : Int64} (hk : ρ.2.1 a = (2, N)) (hin : vp_in i N) (hd : decode M.2.1 pc = .ok (.lastore, 1)) (kk : AW G M d c n K (pc + 1) ls st (I, u2 J a (tn i) x, ρ)) : AW G M d c n K pc ls (.long x :: .int i :: .ref a :: st) (I, J, ρ) := AW.last hk hin hd kk
theorem TW.aast {a t N ci v : Nat} {i : Int32} (hk : ρ.2.1 a = (t + 4, N)) (ht : t ≤ 2) (hin : vp_in i N) (hkv : ρ.2.1 v = (0, ci)) (hci : (t = 0 ∧ (ci = 6 ∨ ci = 5 ∨ ci = 4 ∨ ci = 3 ∨ ci = 9 ∨ ci = 1)) ∨ (t = 1 ∧ ci = 2) ∨ (t = 2 ∧ ci = 7)) (hd : decode M.2.1 pc = .ok (.aastore, 1)) (kk : AW G M d c n K (pc + 1) ls st (I, J, (u2 ρ.1 a (tn i) (some v), ρ.2))) : AW G M d c n K pc ls (.ref v :: .int i :: .ref a :: st) (I, J, ρ) := AW.aast hk ht hin hkv hci hd kk
theorem TW.alen {a t N : Nat} {v : Int32} (hk : ρ.2.1 a = (t, N)) (ht1 : 1 ≤ t) (ht7 : t ≤ 7) (hv : Int32.ofNat N = v) (hd : decode M.2.1 pc = .ok (.arraylength, 1)) (kk : AW G M d c n K (pc + 1) ls (.int v :: st) (I, J, ρ)) : AW G M d c n K pc ls (.ref a :: st) (I, J, ρ) := AW.alen hk ht1 ht7 hv hd kk
theorem TW.copyI {ix a a0 n0 n1 : Nat} {sp dp k : Int32} (hC : CpOk M.1.cls ix) (hk0 : ρ.2.1 a0 = (1, n0)) (hk1 : ρ.2.1 a = (1, n1)) (h1 : ¬ sp < 0) (h2 : ¬ dp < 0) (h3 : ¬ k < 0) (h4 : tn sp + tn k ≤ n0) (h5 : tn dp + tn k ≤ n1) (hr : (st.map fun v => v.category).sum ≤ 8) (hd : decode M.2.1 pc = .ok (.invokestatic ix, 3))
    (kk : AW G M (d + 1) c n K (pc + 3) ls st (up I a (cpy (I a0) (I a) (tn sp) (tn dp) (tn k)), J, ρ)) : AW G M (d + 1) c n K pc ls (.int k :: .int dp :: .ref a :: .int sp :: .ref a0 :: st) (I, J, ρ) := AW.copyI hC hk0 hk1 h1 h2 h3 h4 h5 hr hd kk
theorem TW.copyL {ix a a0 n0 n1 : Nat} {sp dp k : Int32} (hC : CpOk M.1.cls ix) (hk0 : ρ.2.1 a0 = (2, n0)) (hk1 : ρ.2.1 a = (2, n1)) (h1 : ¬ sp < 0) (h2 : ¬ dp < 0) (h3 : ¬ k < 0) (h4 : tn sp + tn k ≤ n0) (h5 : tn dp + tn k ≤ n1) (hr : (st.map fun v => v.category).sum ≤ 8) (hd : decode M.2.1 pc = .ok (.invokestatic ix, 3))
    (kk : AW G M (d + 1) c n K (pc + 3) ls st (I, up J a (cpy (J a0) (J a) (tn sp) (tn dp) (tn k)), ρ)) : AW G M (d + 1) c n K pc ls (.int k :: .int dp :: .ref a :: .int sp :: .ref a0 :: st) (I, J, ρ) := AW.copyL hC hk0 hk1 h1 h2 h3 h4 h5 hr hd kk
end TUP
section MATH
variable {G : Gd} {M : Mi} {d c n : Nat} {K : Ah → Option Value → Prop} {pc : Nat} {ls : List (Option Value)} {st : List Value} {h : Ah}
theorem AW.mmax {ix : Nat} {x y : Int32} (hw : Cond.methodLink M.1.cls ix Lib.Math.max.name ∈ WS ∧ Cond.static Lib.Math.max.name ∈ WS ∧ Cond.initialized "java/lang/Math" ∈ WS ∧ Cond.code Lib.Math.max.name Lib.Math.max.code 2 (some .int) ∈ WS) (hd : decode M.2.1 pc = .ok (.invokestatic ix, 3)) (hr : (st.map fun v => v.category).sum ≤ 8) (kk : AW G M (d + 1) c n K (pc + 3) ls (.int (if x < y then y else x) :: st) h) : AW G M (d + 1) c n K pc ls (.int y :: .int x :: st) h := by
  intro p l e R s m args below meth cd Q H locs cells slots L F h1 h2 hH hS hL
  have hts := F.2.2.2.2.1
  obtain ⟨r1, r2⟩ := F.2.2.2.2.2.2.1
  exact va_mmax F.1 F.2.1 (F.2.2.1.trans hL.1.symm) F.2.2.2.1 (hts _ hw.1) (hts _ hw.2.1) (hts _ hw.2.2.1) (hts _ hw.2.2.2) (by omega) (by rw [cv_cats]; omega) (by omega) (by omega) hd (kk p l e R s m args below meth cd Q H locs cells slots L F h1 h2 hH hS hL)
theorem AW.mmin {ix : Nat} {x y : Int32} (hw : Cond.methodLink M.1.cls ix Lib.Math.min.name ∈ WS ∧ Cond.static Lib.Math.min.name ∈ WS ∧ Cond.initialized "java/lang/Math" ∈ WS ∧ Cond.code Lib.Math.min.name Lib.Math.min.code 2 (some .int) ∈ WS) (hd : decode M.2.1 pc = .ok (.invokestatic ix, 3)) (hr : (st.map fun v => v.category).sum ≤ 8) (kk : AW G M (d + 1) c n K (pc + 3) ls (.int (if y < x then y else x) :: st) h) : AW G M (d + 1) c n K pc ls (.int y :: .int x :: st) h := by
  intro p l e R s m args below meth cd Q H locs cells slots L F h1 h2 hH hS hL
  have hts := F.2.2.2.2.1
  obtain ⟨r1, r2⟩ := F.2.2.2.2.2.2.1
  exact va_mmin F.1 F.2.1 (F.2.2.1.trans hL.1.symm) F.2.2.2.1 (hts _ hw.1) (hts _ hw.2.1) (hts _ hw.2.2.1) (hts _ hw.2.2.2) (by omega) (by rw [cv_cats]; omega) (by omega) (by omega) hd (kk p l e R s m args below meth cd Q H locs cells slots L F h1 h2 hH hS hL)
theorem AW.mminL {ix : Nat} {x y : Int64} (hw : Cond.methodLink M.1.cls ix Lib.MathLoose.min_long.x ∈ WS ∧ Cond.static Lib.MathLoose.min_long.x ∈ WS ∧ Cond.initialized "java/lang/Math" ∈ WS ∧ Cond.code Lib.MathLoose.min_long.x Lib.MathLoose.min_long.code 4 (some .long) ∈ WS) (hd : decode M.2.1 pc = .ok (.invokestatic ix, 3)) (hr : (st.map fun v => v.category).sum ≤ 8) (kk : AW G M (d + 1) c n K (pc + 3) ls (.long (if y < x then y else x) :: st) h) : AW G M (d + 1) c n K pc ls (.long y :: .long x :: st) h := by
  intro p l e R s m args below meth cd Q H locs cells slots L F h1 h2 hH hS hL
  have hts := F.2.2.2.2.1
  obtain ⟨r1, r2⟩ := F.2.2.2.2.2.2.1
  exact va_mmin_long F.1 F.2.1 (F.2.2.1.trans hL.1.symm) F.2.2.2.1 (hts _ hw.1) (hts _ hw.2.1) (hts _ hw.2.2.1) (hts _ hw.2.2.2) (by omega) (by rw [cv_cats]; omega) (by omega) (by omega) hd (kk p l e R s m args below meth cd Q H locs cells slots L F h1 h2 hH hS hL)
theorem AW.mabsL {ix : Nat} {x : Int64} (hw : Cond.methodLink M.1.cls ix Lib.MathLoose.abs_long.x ∈ WS ∧ Cond.static Lib.MathLoose.abs_long.x ∈ WS ∧ Cond.initialized "java/lang/Math" ∈ WS ∧ Cond.code Lib.MathLoose.abs_long.x Lib.MathLoose.abs_long.code 2 (some .long) ∈ WS) (hd : decode M.2.1 pc = .ok (.invokestatic ix, 3)) (hr : (st.map fun v => v.category).sum ≤ 8) (kk : AW G M (d + 1) c n K (pc + 3) ls (.long (if 0 < x then x else -x) :: st) h) : AW G M (d + 1) c n K pc ls (.long x :: st) h := by
  intro p l e R s m args below meth cd Q H locs cells slots L F h1 h2 hH hS hL
  have hts := F.2.2.2.2.1
  obtain ⟨r1, r2⟩ := F.2.2.2.2.2.2.1
  exact va_mabs_long F.1 F.2.1 (F.2.2.1.trans hL.1.symm) F.2.2.2.1 (hts _ hw.1) (hts _ hw.2.1) (hts _ hw.2.2.1) (hts _ hw.2.2.2) (by omega) (by rw [cv_cats]; omega) (by omega) (by omega) hd (kk p l e R s m args below meth cd Q H locs cells slots L F h1 h2 hH hS hL)
end MATH
/-! ===== the shape: the fixed objects, at 32 .. 114 ===== -/
def shK : List (Nat × Nat × Nat) := [(32, 0, 11), (33, 4, 8), (34, 5, 6), (35, 0, 8), (36, 3, 160), (37, 1, 160), (38, 6, 4), (39, 2, 8), (40, 1, 6), (41, 0, 2), (42, 0, 0), (43, 1, 8), (44, 1, 8), (45, 1, 4), (46, 1, 12), (47, 1, 12), (48, 0, 10), (49, 7, 13), (50, 1, 8), (51, 1, 8), (52, 1, 8), (53, 1, 8), (54, 1, 8), (55, 1, 8), (56, 1, 8), (57, 1, 8), (58, 1, 8), (59, 1, 8), (60, 1, 8), (61, 1, 8), (62, 1, 8), (63, 7, 12), (64, 1, 8), (65, 1, 8), (66, 1, 8), (67, 1, 8), (68, 1, 8), (69, 1, 8), (70, 1, 8), (71, 1, 8), (72, 1, 8), (73, 1, 8), (74, 1, 8), (75, 1, 8), (76, 1, 13), (77, 1, 13), (78, 2, 8), (79, 1, 6), (80, 1, 160), (81, 0, 7), (82, 1, 40), (83, 0, 7), (84, 1, 40), (85, 0, 7), (86, 1, 40), (87, 0, 7), (88, 1, 40), (89, 0, 12), (90, 1, 8), (91, 1, 8), (92, 1, 12), (93, 1, 12), (94, 1, 8), (95, 1, 8), (96, 1, 64), (97, 1, 160), (98, 1, 1200), (99, 1, 24), (100, 1, 104), (101, 1, 96), (102, 1, 13), (103, 1, 13), (104, 1, 8), (105, 1, 12), (106, 1, 12), (107, 1, 4), (108, 1, 4), (109, 1, 160), (110, 2, 11), (111, 1, 200), (112, 1, 200), (113, 1, 6), (114, 2, 8)]
def shR : List (Nat × Nat × Nat) := [(32, 0, 42), (32, 2, 33), (32, 4, 34), (32, 6, 35), (32, 7, 38), (32, 8, 48), (32, 9, 39), (35, 0, 36), (35, 2, 37), (42, 1, 43), (42, 2, 44), (42, 3, 45), (42, 4, 46), (42, 5, 47), (48, 0, 42), (48, 1, 49), (48, 2, 63), (48, 3, 76), (48, 4, 77), (48, 5, 78), (48, 6, 79), (48, 7, 80), (81, 2, 82), (83, 2, 84), (85, 2, 86), (87, 2, 88), (89, 1, 90), (89, 2, 91), (89, 7, 92), (89, 8, 93), (89, 10, 94), (89, 11, 95), (89, 12, 96), (89, 13, 97), (89, 15, 98), (89, 16, 99), (89, 19, 100), (89, 20, 101), (89, 21, 102), (89, 22, 103), (89, 31, 104), (89, 32, 105), (89, 33, 106), (89, 34, 107), (89, 35, 108), (89, 36, 109), (89, 41, 110), (89, 42, 111), (89, 46, 112), (89, 47, 113), (89, 48, 114)]
def Sh (ρ : Rh) : Prop := (∀ q ∈ shK, ρ.2.1 q.1 = q.2) ∧ (∀ q ∈ shR, ρ.1 q.1 q.2.1 = some q.2.2) ∧ (∀ i, i < 13 → ρ.1 49 i = some (50 + i)) ∧ (∀ i, i < 12 → ρ.1 63 i = some (64 + i)) ∧ (∀ i, i < 4 → ρ.1 38 i = some (81 + 2 * i)) ∧ 83 ≤ ρ.2.2
theorem Sh.k32 {ρ : Rh} (h : Sh ρ) : ρ.2.1 32 = (0, 11) := h.1 _ (List.mem_of_getElem? (i := 0) rfl)
theorem Sh.k33 {ρ : Rh} (h : Sh ρ) : ρ.2.1 33 = (4, 8) := h.1 _ (List.mem_of_getElem? (i := 1) rfl)
theorem Sh.k34 {ρ : Rh} (h : Sh ρ) : ρ.2.1 34 = (5, 6) := h.1 _ (List.mem_of_getElem? (i := 2) rfl)
theorem Sh.k35 {ρ : Rh} (h : Sh ρ) : ρ.2.1 35 = (0, 8) := h.1 _ (List.mem_of_getElem? (i := 3) rfl)
theorem Sh.k36 {ρ : Rh} (h : Sh ρ) : ρ.2.1 36 = (3, 160) := h.1 _ (List.mem_of_getElem? (i := 4) rfl)
theorem Sh.k37 {ρ : Rh} (h : Sh ρ) : ρ.2.1 37 = (1, 160) := h.1 _ (List.mem_of_getElem? (i := 5) rfl)
theorem Sh.k38 {ρ : Rh} (h : Sh ρ) : ρ.2.1 38 = (6, 4) := h.1 _ (List.mem_of_getElem? (i := 6) rfl)
theorem Sh.k39 {ρ : Rh} (h : Sh ρ) : ρ.2.1 39 = (2, 8) := h.1 _ (List.mem_of_getElem? (i := 7) rfl)
theorem Sh.k40 {ρ : Rh} (h : Sh ρ) : ρ.2.1 40 = (1, 6) := h.1 _ (List.mem_of_getElem? (i := 8) rfl)
theorem Sh.k41 {ρ : Rh} (h : Sh ρ) : ρ.2.1 41 = (0, 2) := h.1 _ (List.mem_of_getElem? (i := 9) rfl)
theorem Sh.k42 {ρ : Rh} (h : Sh ρ) : ρ.2.1 42 = (0, 0) := h.1 _ (List.mem_of_getElem? (i := 10) rfl)
theorem Sh.k43 {ρ : Rh} (h : Sh ρ) : ρ.2.1 43 = (1, 8) := h.1 _ (List.mem_of_getElem? (i := 11) rfl)
theorem Sh.k44 {ρ : Rh} (h : Sh ρ) : ρ.2.1 44 = (1, 8) := h.1 _ (List.mem_of_getElem? (i := 12) rfl)
theorem Sh.k45 {ρ : Rh} (h : Sh ρ) : ρ.2.1 45 = (1, 4) := h.1 _ (List.mem_of_getElem? (i := 13) rfl)
theorem Sh.k46 {ρ : Rh} (h : Sh ρ) : ρ.2.1 46 = (1, 12) := h.1 _ (List.mem_of_getElem? (i := 14) rfl)
theorem Sh.k47 {ρ : Rh} (h : Sh ρ) : ρ.2.1 47 = (1, 12) := h.1 _ (List.mem_of_getElem? (i := 15) rfl)
theorem Sh.k48 {ρ : Rh} (h : Sh ρ) : ρ.2.1 48 = (0, 10) := h.1 _ (List.mem_of_getElem? (i := 16) rfl)
theorem Sh.k49 {ρ : Rh} (h : Sh ρ) : ρ.2.1 49 = (7, 13) := h.1 _ (List.mem_of_getElem? (i := 17) rfl)
theorem Sh.k50 {ρ : Rh} (h : Sh ρ) : ρ.2.1 50 = (1, 8) := h.1 _ (List.mem_of_getElem? (i := 18) rfl)
theorem Sh.k51 {ρ : Rh} (h : Sh ρ) : ρ.2.1 51 = (1, 8) := h.1 _ (List.mem_of_getElem? (i := 19) rfl)
theorem Sh.k52 {ρ : Rh} (h : Sh ρ) : ρ.2.1 52 = (1, 8) := h.1 _ (List.mem_of_getElem? (i := 20) rfl)
theorem Sh.k53 {ρ : Rh} (h : Sh ρ) : ρ.2.1 53 = (1, 8) := h.1 _ (List.mem_of_getElem? (i := 21) rfl)
theorem Sh.k54 {ρ : Rh} (h : Sh ρ) : ρ.2.1 54 = (1, 8) := h.1 _ (List.mem_of_getElem? (i := 22) rfl)
theorem Sh.k55 {ρ : Rh} (h : Sh ρ) : ρ.2.1 55 = (1, 8) := h.1 _ (List.mem_of_getElem? (i := 23) rfl)
theorem Sh.k56 {ρ : Rh} (h : Sh ρ) : ρ.2.1 56 = (1, 8) := h.1 _ (List.mem_of_getElem? (i := 24) rfl)
theorem Sh.k57 {ρ : Rh} (h : Sh ρ) : ρ.2.1 57 = (1, 8) := h.1 _ (List.mem_of_getElem? (i := 25) rfl)
theorem Sh.k58 {ρ : Rh} (h : Sh ρ) : ρ.2.1 58 = (1, 8) := h.1 _ (List.mem_of_getElem? (i := 26) rfl)
theorem Sh.k59 {ρ : Rh} (h : Sh ρ) : ρ.2.1 59 = (1, 8) := h.1 _ (List.mem_of_getElem? (i := 27) rfl)
theorem Sh.k60 {ρ : Rh} (h : Sh ρ) : ρ.2.1 60 = (1, 8) := h.1 _ (List.mem_of_getElem? (i := 28) rfl)
theorem Sh.k61 {ρ : Rh} (h : Sh ρ) : ρ.2.1 61 = (1, 8) := h.1 _ (List.mem_of_getElem? (i := 29) rfl)
theorem Sh.k62 {ρ : Rh} (h : Sh ρ) : ρ.2.1 62 = (1, 8) := h.1 _ (List.mem_of_getElem? (i := 30) rfl)
theorem Sh.k63 {ρ : Rh} (h : Sh ρ) : ρ.2.1 63 = (7, 12) := h.1 _ (List.mem_of_getElem? (i := 31) rfl)
theorem Sh.k64 {ρ : Rh} (h : Sh ρ) : ρ.2.1 64 = (1, 8) := h.1 _ (List.mem_of_getElem? (i := 32) rfl)
theorem Sh.k65 {ρ : Rh} (h : Sh ρ) : ρ.2.1 65 = (1, 8) := h.1 _ (List.mem_of_getElem? (i := 33) rfl)
theorem Sh.k66 {ρ : Rh} (h : Sh ρ) : ρ.2.1 66 = (1, 8) := h.1 _ (List.mem_of_getElem? (i := 34) rfl)
theorem Sh.k67 {ρ : Rh} (h : Sh ρ) : ρ.2.1 67 = (1, 8) := h.1 _ (List.mem_of_getElem? (i := 35) rfl)
theorem Sh.k68 {ρ : Rh} (h : Sh ρ) : ρ.2.1 68 = (1, 8) := h.1 _ (List.mem_of_getElem? (i := 36) rfl)
theorem Sh.k69 {ρ : Rh} (h : Sh ρ) : ρ.2.1 69 = (1, 8) := h.1 _ (List.mem_of_getElem? (i := 37) rfl)
theorem Sh.k70 {ρ : Rh} (h : Sh ρ) : ρ.2.1 70 = (1, 8) := h.1 _ (List.mem_of_getElem? (i := 38) rfl)
theorem Sh.k71 {ρ : Rh} (h : Sh ρ) : ρ.2.1 71 = (1, 8) := h.1 _ (List.mem_of_getElem? (i := 39) rfl)
theorem Sh.k72 {ρ : Rh} (h : Sh ρ) : ρ.2.1 72 = (1, 8) := h.1 _ (List.mem_of_getElem? (i := 40) rfl)
theorem Sh.k73 {ρ : Rh} (h : Sh ρ) : ρ.2.1 73 = (1, 8) := h.1 _ (List.mem_of_getElem? (i := 41) rfl)
theorem Sh.k74 {ρ : Rh} (h : Sh ρ) : ρ.2.1 74 = (1, 8) := h.1 _ (List.mem_of_getElem? (i := 42) rfl)
theorem Sh.k75 {ρ : Rh} (h : Sh ρ) : ρ.2.1 75 = (1, 8) := h.1 _ (List.mem_of_getElem? (i := 43) rfl)
theorem Sh.k76 {ρ : Rh} (h : Sh ρ) : ρ.2.1 76 = (1, 13) := h.1 _ (List.mem_of_getElem? (i := 44) rfl)
theorem Sh.k77 {ρ : Rh} (h : Sh ρ) : ρ.2.1 77 = (1, 13) := h.1 _ (List.mem_of_getElem? (i := 45) rfl)
theorem Sh.k78 {ρ : Rh} (h : Sh ρ) : ρ.2.1 78 = (2, 8) := h.1 _ (List.mem_of_getElem? (i := 46) rfl)
theorem Sh.k79 {ρ : Rh} (h : Sh ρ) : ρ.2.1 79 = (1, 6) := h.1 _ (List.mem_of_getElem? (i := 47) rfl)
theorem Sh.k80 {ρ : Rh} (h : Sh ρ) : ρ.2.1 80 = (1, 160) := h.1 _ (List.mem_of_getElem? (i := 48) rfl)
theorem Sh.k81 {ρ : Rh} (h : Sh ρ) : ρ.2.1 81 = (0, 7) := h.1 _ (List.mem_of_getElem? (i := 49) rfl)
theorem Sh.k82 {ρ : Rh} (h : Sh ρ) : ρ.2.1 82 = (1, 40) := h.1 _ (List.mem_of_getElem? (i := 50) rfl)
theorem Sh.k83 {ρ : Rh} (h : Sh ρ) : ρ.2.1 83 = (0, 7) := h.1 _ (List.mem_of_getElem? (i := 51) rfl)
theorem Sh.k84 {ρ : Rh} (h : Sh ρ) : ρ.2.1 84 = (1, 40) := h.1 _ (List.mem_of_getElem? (i := 52) rfl)
theorem Sh.k85 {ρ : Rh} (h : Sh ρ) : ρ.2.1 85 = (0, 7) := h.1 _ (List.mem_of_getElem? (i := 53) rfl)
theorem Sh.k86 {ρ : Rh} (h : Sh ρ) : ρ.2.1 86 = (1, 40) := h.1 _ (List.mem_of_getElem? (i := 54) rfl)
theorem Sh.k87 {ρ : Rh} (h : Sh ρ) : ρ.2.1 87 = (0, 7) := h.1 _ (List.mem_of_getElem? (i := 55) rfl)
theorem Sh.k88 {ρ : Rh} (h : Sh ρ) : ρ.2.1 88 = (1, 40) := h.1 _ (List.mem_of_getElem? (i := 56) rfl)
theorem Sh.k89 {ρ : Rh} (h : Sh ρ) : ρ.2.1 89 = (0, 12) := h.1 _ (List.mem_of_getElem? (i := 57) rfl)
theorem Sh.k90 {ρ : Rh} (h : Sh ρ) : ρ.2.1 90 = (1, 8) := h.1 _ (List.mem_of_getElem? (i := 58) rfl)
theorem Sh.k91 {ρ : Rh} (h : Sh ρ) : ρ.2.1 91 = (1, 8) := h.1 _ (List.mem_of_getElem? (i := 59) rfl)
theorem Sh.k92 {ρ : Rh} (h : Sh ρ) : ρ.2.1 92 = (1, 12) := h.1 _ (List.mem_of_getElem? (i := 60) rfl)
theorem Sh.k93 {ρ : Rh} (h : Sh ρ) : ρ.2.1 93 = (1, 12) := h.1 _ (List.mem_of_getElem? (i := 61) rfl)
theorem Sh.k94 {ρ : Rh} (h : Sh ρ) : ρ.2.1 94 = (1, 8) := h.1 _ (List.mem_of_getElem? (i := 62) rfl)
theorem Sh.k95 {ρ : Rh} (h : Sh ρ) : ρ.2.1 95 = (1, 8) := h.1 _ (List.mem_of_getElem? (i := 63) rfl)
theorem Sh.k96 {ρ : Rh} (h : Sh ρ) : ρ.2.1 96 = (1, 64) := h.1 _ (List.mem_of_getElem? (i := 64) rfl)
theorem Sh.k97 {ρ : Rh} (h : Sh ρ) : ρ.2.1 97 = (1, 160) := h.1 _ (List.mem_of_getElem? (i := 65) rfl)
theorem Sh.k98 {ρ : Rh} (h : Sh ρ) : ρ.2.1 98 = (1, 1200) := h.1 _ (List.mem_of_getElem? (i := 66) rfl)
theorem Sh.k99 {ρ : Rh} (h : Sh ρ) : ρ.2.1 99 = (1, 24) := h.1 _ (List.mem_of_getElem? (i := 67) rfl)
theorem Sh.k100 {ρ : Rh} (h : Sh ρ) : ρ.2.1 100 = (1, 104) := h.1 _ (List.mem_of_getElem? (i := 68) rfl)
theorem Sh.k101 {ρ : Rh} (h : Sh ρ) : ρ.2.1 101 = (1, 96) := h.1 _ (List.mem_of_getElem? (i := 69) rfl)
theorem Sh.k102 {ρ : Rh} (h : Sh ρ) : ρ.2.1 102 = (1, 13) := h.1 _ (List.mem_of_getElem? (i := 70) rfl)
theorem Sh.k103 {ρ : Rh} (h : Sh ρ) : ρ.2.1 103 = (1, 13) := h.1 _ (List.mem_of_getElem? (i := 71) rfl)
theorem Sh.k104 {ρ : Rh} (h : Sh ρ) : ρ.2.1 104 = (1, 8) := h.1 _ (List.mem_of_getElem? (i := 72) rfl)
theorem Sh.k105 {ρ : Rh} (h : Sh ρ) : ρ.2.1 105 = (1, 12) := h.1 _ (List.mem_of_getElem? (i := 73) rfl)
theorem Sh.k106 {ρ : Rh} (h : Sh ρ) : ρ.2.1 106 = (1, 12) := h.1 _ (List.mem_of_getElem? (i := 74) rfl)
theorem Sh.k107 {ρ : Rh} (h : Sh ρ) : ρ.2.1 107 = (1, 4) := h.1 _ (List.mem_of_getElem? (i := 75) rfl)
theorem Sh.k108 {ρ : Rh} (h : Sh ρ) : ρ.2.1 108 = (1, 4) := h.1 _ (List.mem_of_getElem? (i := 76) rfl)
theorem Sh.k109 {ρ : Rh} (h : Sh ρ) : ρ.2.1 109 = (1, 160) := h.1 _ (List.mem_of_getElem? (i := 77) rfl)
theorem Sh.k110 {ρ : Rh} (h : Sh ρ) : ρ.2.1 110 = (2, 11) := h.1 _ (List.mem_of_getElem? (i := 78) rfl)
theorem Sh.k111 {ρ : Rh} (h : Sh ρ) : ρ.2.1 111 = (1, 200) := h.1 _ (List.mem_of_getElem? (i := 79) rfl)
theorem Sh.k112 {ρ : Rh} (h : Sh ρ) : ρ.2.1 112 = (1, 200) := h.1 _ (List.mem_of_getElem? (i := 80) rfl)
theorem Sh.k113 {ρ : Rh} (h : Sh ρ) : ρ.2.1 113 = (1, 6) := h.1 _ (List.mem_of_getElem? (i := 81) rfl)
theorem Sh.k114 {ρ : Rh} (h : Sh ρ) : ρ.2.1 114 = (2, 8) := h.1 _ (List.mem_of_getElem? (i := 82) rfl)
theorem Sh.r32_0 {ρ : Rh} (h : Sh ρ) : ρ.1 32 0 = some 42 := h.2.1 _ (List.mem_of_getElem? (i := 0) rfl)
theorem Sh.r32_2 {ρ : Rh} (h : Sh ρ) : ρ.1 32 2 = some 33 := h.2.1 _ (List.mem_of_getElem? (i := 1) rfl)
theorem Sh.r32_4 {ρ : Rh} (h : Sh ρ) : ρ.1 32 4 = some 34 := h.2.1 _ (List.mem_of_getElem? (i := 2) rfl)
theorem Sh.r32_6 {ρ : Rh} (h : Sh ρ) : ρ.1 32 6 = some 35 := h.2.1 _ (List.mem_of_getElem? (i := 3) rfl)
theorem Sh.r32_7 {ρ : Rh} (h : Sh ρ) : ρ.1 32 7 = some 38 := h.2.1 _ (List.mem_of_getElem? (i := 4) rfl)
theorem Sh.r32_8 {ρ : Rh} (h : Sh ρ) : ρ.1 32 8 = some 48 := h.2.1 _ (List.mem_of_getElem? (i := 5) rfl)
theorem Sh.r32_9 {ρ : Rh} (h : Sh ρ) : ρ.1 32 9 = some 39 := h.2.1 _ (List.mem_of_getElem? (i := 6) rfl)
theorem Sh.r35_0 {ρ : Rh} (h : Sh ρ) : ρ.1 35 0 = some 36 := h.2.1 _ (List.mem_of_getElem? (i := 7) rfl)
theorem Sh.r35_2 {ρ : Rh} (h : Sh ρ) : ρ.1 35 2 = some 37 := h.2.1 _ (List.mem_of_getElem? (i := 8) rfl)
theorem Sh.r42_1 {ρ : Rh} (h : Sh ρ) : ρ.1 42 1 = some 43 := h.2.1 _ (List.mem_of_getElem? (i := 9) rfl)
theorem Sh.r42_2 {ρ : Rh} (h : Sh ρ) : ρ.1 42 2 = some 44 := h.2.1 _ (List.mem_of_getElem? (i := 10) rfl)
theorem Sh.r42_3 {ρ : Rh} (h : Sh ρ) : ρ.1 42 3 = some 45 := h.2.1 _ (List.mem_of_getElem? (i := 11) rfl)
theorem Sh.r42_4 {ρ : Rh} (h : Sh ρ) : ρ.1 42 4 = some 46 := h.2.1 _ (List.mem_of_getElem? (i := 12) rfl)
theorem Sh.r42_5 {ρ : Rh} (h : Sh ρ) : ρ.1 42 5 = some 47 := h.2.1 _ (List.mem_of_getElem? (i := 13) rfl)
theorem Sh.r48_0 {ρ : Rh} (h : Sh ρ) : ρ.1 48 0 = some 42 := h.2.1 _ (List.mem_of_getElem? (i := 14) rfl)
theorem Sh.r48_1 {ρ : Rh} (h : Sh ρ) : ρ.1 48 1 = some 49 := h.2.1 _ (List.mem_of_getElem? (i := 15) rfl)
theorem Sh.r48_2 {ρ : Rh} (h : Sh ρ) : ρ.1 48 2 = some 63 := h.2.1 _ (List.mem_of_getElem? (i := 16) rfl)
theorem Sh.r48_3 {ρ : Rh} (h : Sh ρ) : ρ.1 48 3 = some 76 := h.2.1 _ (List.mem_of_getElem? (i := 17) rfl)
theorem Sh.r48_4 {ρ : Rh} (h : Sh ρ) : ρ.1 48 4 = some 77 := h.2.1 _ (List.mem_of_getElem? (i := 18) rfl)
theorem Sh.r48_5 {ρ : Rh} (h : Sh ρ) : ρ.1 48 5 = some 78 := h.2.1 _ (List.mem_of_getElem? (i := 19) rfl)
theorem Sh.r48_6 {ρ : Rh} (h : Sh ρ) : ρ.1 48 6 = some 79 := h.2.1 _ (List.mem_of_getElem? (i := 20) rfl)
theorem Sh.r48_7 {ρ : Rh} (h : Sh ρ) : ρ.1 48 7 = some 80 := h.2.1 _ (List.mem_of_getElem? (i := 21) rfl)
theorem Sh.r81_2 {ρ : Rh} (h : Sh ρ) : ρ.1 81 2 = some 82 := h.2.1 _ (List.mem_of_getElem? (i := 22) rfl)
theorem Sh.r83_2 {ρ : Rh} (h : Sh ρ) : ρ.1 83 2 = some 84 := h.2.1 _ (List.mem_of_getElem? (i := 23) rfl)
theorem Sh.r85_2 {ρ : Rh} (h : Sh ρ) : ρ.1 85 2 = some 86 := h.2.1 _ (List.mem_of_getElem? (i := 24) rfl)
theorem Sh.r87_2 {ρ : Rh} (h : Sh ρ) : ρ.1 87 2 = some 88 := h.2.1 _ (List.mem_of_getElem? (i := 25) rfl)
theorem Sh.r89_1 {ρ : Rh} (h : Sh ρ) : ρ.1 89 1 = some 90 := h.2.1 _ (List.mem_of_getElem? (i := 26) rfl)
theorem Sh.r89_2 {ρ : Rh} (h : Sh ρ) : ρ.1 89 2 = some 91 := h.2.1 _ (List.mem_of_getElem? (i := 27) rfl)
theorem Sh.r89_7 {ρ : Rh} (h : Sh ρ) : ρ.1 89 7 = some 92 := h.2.1 _ (List.mem_of_getElem? (i := 28) rfl)
theorem Sh.r89_8 {ρ : Rh} (h : Sh ρ) : ρ.1 89 8 = some 93 := h.2.1 _ (List.mem_of_getElem? (i := 29) rfl)
theorem Sh.r89_10 {ρ : Rh} (h : Sh ρ) : ρ.1 89 10 = some 94 := h.2.1 _ (List.mem_of_getElem? (i := 30) rfl)
theorem Sh.r89_11 {ρ : Rh} (h : Sh ρ) : ρ.1 89 11 = some 95 := h.2.1 _ (List.mem_of_getElem? (i := 31) rfl)
theorem Sh.r89_12 {ρ : Rh} (h : Sh ρ) : ρ.1 89 12 = some 96 := h.2.1 _ (List.mem_of_getElem? (i := 32) rfl)
theorem Sh.r89_13 {ρ : Rh} (h : Sh ρ) : ρ.1 89 13 = some 97 := h.2.1 _ (List.mem_of_getElem? (i := 33) rfl)
theorem Sh.r89_15 {ρ : Rh} (h : Sh ρ) : ρ.1 89 15 = some 98 := h.2.1 _ (List.mem_of_getElem? (i := 34) rfl)
theorem Sh.r89_16 {ρ : Rh} (h : Sh ρ) : ρ.1 89 16 = some 99 := h.2.1 _ (List.mem_of_getElem? (i := 35) rfl)
theorem Sh.r89_19 {ρ : Rh} (h : Sh ρ) : ρ.1 89 19 = some 100 := h.2.1 _ (List.mem_of_getElem? (i := 36) rfl)
theorem Sh.r89_20 {ρ : Rh} (h : Sh ρ) : ρ.1 89 20 = some 101 := h.2.1 _ (List.mem_of_getElem? (i := 37) rfl)
theorem Sh.r89_21 {ρ : Rh} (h : Sh ρ) : ρ.1 89 21 = some 102 := h.2.1 _ (List.mem_of_getElem? (i := 38) rfl)
theorem Sh.r89_22 {ρ : Rh} (h : Sh ρ) : ρ.1 89 22 = some 103 := h.2.1 _ (List.mem_of_getElem? (i := 39) rfl)
theorem Sh.r89_31 {ρ : Rh} (h : Sh ρ) : ρ.1 89 31 = some 104 := h.2.1 _ (List.mem_of_getElem? (i := 40) rfl)
theorem Sh.r89_32 {ρ : Rh} (h : Sh ρ) : ρ.1 89 32 = some 105 := h.2.1 _ (List.mem_of_getElem? (i := 41) rfl)
theorem Sh.r89_33 {ρ : Rh} (h : Sh ρ) : ρ.1 89 33 = some 106 := h.2.1 _ (List.mem_of_getElem? (i := 42) rfl)
theorem Sh.r89_34 {ρ : Rh} (h : Sh ρ) : ρ.1 89 34 = some 107 := h.2.1 _ (List.mem_of_getElem? (i := 43) rfl)
theorem Sh.r89_35 {ρ : Rh} (h : Sh ρ) : ρ.1 89 35 = some 108 := h.2.1 _ (List.mem_of_getElem? (i := 44) rfl)
theorem Sh.r89_36 {ρ : Rh} (h : Sh ρ) : ρ.1 89 36 = some 109 := h.2.1 _ (List.mem_of_getElem? (i := 45) rfl)
theorem Sh.r89_41 {ρ : Rh} (h : Sh ρ) : ρ.1 89 41 = some 110 := h.2.1 _ (List.mem_of_getElem? (i := 46) rfl)
theorem Sh.r89_42 {ρ : Rh} (h : Sh ρ) : ρ.1 89 42 = some 111 := h.2.1 _ (List.mem_of_getElem? (i := 47) rfl)
theorem Sh.r89_46 {ρ : Rh} (h : Sh ρ) : ρ.1 89 46 = some 112 := h.2.1 _ (List.mem_of_getElem? (i := 48) rfl)
theorem Sh.r89_47 {ρ : Rh} (h : Sh ρ) : ρ.1 89 47 = some 113 := h.2.1 _ (List.mem_of_getElem? (i := 49) rfl)
theorem Sh.r89_48 {ρ : Rh} (h : Sh ρ) : ρ.1 89 48 = some 114 := h.2.1 _ (List.mem_of_getElem? (i := 50) rfl)
theorem Sh.e49 {ρ : Rh} (h : Sh ρ) {i : Nat} (hi : i < 13) : ρ.1 49 i = some (50 + i) := h.2.2.1 i hi
theorem Sh.e63 {ρ : Rh} (h : Sh ρ) {i : Nat} (hi : i < 12) : ρ.1 63 i = some (64 + i) := h.2.2.2.1 i hi
theorem Sh.e38 {ρ : Rh} (h : Sh ρ) {i : Nat} (hi : i < 4) : ρ.1 38 i = some (81 + 2 * i) := h.2.2.2.2.1 i hi
theorem Sh.ek49 {ρ : Rh} (h : Sh ρ) {i : Nat} (hi : i < 13) : ρ.2.1 (50 + i) = (1, 8) := by
  rcases (show i = 0 ∨ i = 1 ∨ i = 2 ∨ i = 3 ∨ i = 4 ∨ i = 5 ∨ i = 6 ∨ i = 7 ∨ i = 8 ∨ i = 9 ∨ i = 10 ∨ i = 11 ∨ i = 12 by omega) with rfl | rfl | rfl | rfl | rfl | rfl | rfl | rfl | rfl | rfl | rfl | rfl | rfl
  · exact h.k50
  · exact h.k51
  · exact h.k52
  · exact h.k53
  · exact h.k54
  · exact h.k55
  · exact h.k56
  · exact h.k57
  · exact h.k58
  · exact h.k59
  · exact h.k60
  · exact h.k61
  · exact h.k62
theorem Sh.ek63 {ρ : Rh} (h : Sh ρ) {i : Nat} (hi : i < 12) : ρ.2.1 (64 + i) = (1, 8) := by
  rcases (show i = 0 ∨ i = 1 ∨ i = 2 ∨ i = 3 ∨ i = 4 ∨ i = 5 ∨ i = 6 ∨ i = 7 ∨ i = 8 ∨ i = 9 ∨ i = 10 ∨ i = 11 by omega) with rfl | rfl | rfl | rfl | rfl | rfl | rfl | rfl | rfl | rfl | rfl | rfl
  · exact h.k64
  · exact h.k65
  · exact h.k66
  · exact h.k67
  · exact h.k68
  · exact h.k69
  · exact h.k70
  · exact h.k71
  · exact h.k72
  · exact h.k73
  · exact h.k74
  · exact h.k75
theorem Sh.ek38 {ρ : Rh} (h : Sh ρ) {i : Nat} (hi : i < 4) : ρ.2.1 (81 + 2 * i) = (0, 7) := by
  rcases (show i = 0 ∨ i = 1 ∨ i = 2 ∨ i = 3 by omega) with rfl | rfl | rfl | rfl
  · exact h.k81
  · exact h.k83
  · exact h.k85
  · exact h.k87
theorem vp_lt {i : Int32} {N : Nat} (h : vp_in i N) : tn i < N := Nat.not_le.mp fun q => h (Or.inr q)
