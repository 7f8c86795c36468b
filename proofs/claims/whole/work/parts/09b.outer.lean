/-! ===== copies between rows; tables, texts and the script; instanceof ===== -/
theorem copyAny {α : Type} (mk : α → Value) {p : Program} {l : Launch} {e : Env} {R : Room} {s : State} {m : MethodId} {args : Array Value} {below : List Frame} {meth : Method} {c : Code} {H : Heap} {locs : List Loc} {cells slots : Nat} {Q : State → Prop} {cc : ByteArray} {pc : Nat} {ls : Array Slot} {rest : List Value} (hexec : p.tables.exec = Jvm.exec) (hb : c.code = cc) (hml : c.maxLocals = ls.size) {own : String} {index : Nat} (hown : s.vm.findClass own = some m.cls) (hlink : (Cond.methodLink own index arraycopyName).before args s = true) (hnat : (Cond.native arraycopyName).before args s = true) (hstat : (Cond.static arraycopyName).before args s = true) (hini : (Cond.initialized "java/lang/System").before args s = true)
    {a a0 n0 n1 : Nat} {c0 c1 : ClassId} {f g : Nat → α} {ty : FieldType} (hc0 : H[a0]? = some (arrV c0 n0 (fun j => mk (f j)))) (hc1 : H[a]? = some (arrV c1 n1 (fun j => mk (g j)))) (ht0 : ArrOfT s c0 ty) (ht1 : ArrOfT s c1 ty) (hprim : refKind ty = false)
    {sp dp n : Int32} (h1 : ¬ sp < 0) (h2 : ¬ dp < 0) (h3 : ¬ n < 0) (h4 : sp.toNatClampNeg + n.toNatClampNeg ≤ n0) (h5 : dp.toNatClampNeg + n.toNatClampNeg ≤ n1) (hfit : ∀ x, fits ty (mk x) = true) (htk : ∀ (U : State) (cm : ClassId) (x : α), U.takes cm (mk x))
    (hframes : 1 ≤ R.frames) (hlocals : (rest.map fun v => v.category).sum + (nativeFrameWords "java/lang/System" "arraycopy" 5 + 11) ≤ R.locals) (hdg : decode cc pc = .ok (.invokestatic index, 3))
    (kk : ∀ (H1 : Heap) (locs1 : List Loc), H1[a]? = some (arrV c1 n1 (fun j => mk (va_cpy f g sp.toNatClampNeg dp.toNatClampNeg n.toNatClampNeg j))) → H1.size = H.size → (∀ q : Nat, q ≠ a → H1[q]? = H[q]?) → (∀ q ∈ locs1, q ∈ locs ∨ q.base = a) → W p l e R s m args below meth c H1 locs1 cells slots Q (F0 m (pc + 3) ls rest)) : W p l e R s m args below meth c H locs cells slots Q (F0 m pc ls (.int n :: .int dp :: .ref a :: .int sp :: .ref a0 :: rest)) := by
  have nn : ∀ z : Int32, ¬ z < 0 → z.toInt = (z.toNatClampNeg : Int) := by
    intro z hz
    have hz0 : (0 : Int) ≤ z.toInt := by
      have := Int32.not_lt.mp hz
      simpa using Int32.le_iff_toInt_le.mp this
    show z.toInt = ((z.toInt.toNat : Nat) : Int)
    omega
  intro T hT X
  obtain ⟨-, k0, hk0, cm0, hkk0⟩ := ht0 n0 (fun j => mk (f j))
  obtain ⟨-, k1, hk1, cm1, hkk1⟩ := ht1 n1 (fun j => mk (g j))
  obtain ⟨vm', X', step⟩ := X.arraycopy hexec hown hlink hnat hstat hini (src := a0) (dst := a) (cs := arrV c0 n0 (fun j => mk (f j))) (cd := arrV c1 n1 (fun j => mk (g j))) (srcPos := sp) (destPos := dp) (n := n) (by rw [hT]; exact hc0) (by rw [hT]; exact hc1)
    (fun _ h => by cases h) (fun _ h => by cases h) (fun h => by cases h) (fun h => by cases h) hk0 hk1 hkk0 hkk1 (by simp [hprim]) h1 h2 h3
    (by rw [nn sp h1, nn n h3, arrV_size]; omega)
    (by rw [nn dp h2, nn n h3, arrV_size]; omega)
    (fun vm₁ _ i hi => by
      have e : (arrV c0 n0 (fun j => mk (f j))).slots.getD (sp.toNatClampNeg + i) .null = mk (f (sp.toNatClampNeg + i)) := by
        rw [Array.getD_eq_getD_getElem?, arrV_read _ _ (by omega)]
        rfl
      rw [e]
      exact ⟨hfit _, htk _ _ _⟩)
    (g := F0 m pc ls (.int n :: .int dp :: .ref a :: .int sp :: .ref a0 :: rest)) rfl (by rw [hml]) (rest := rest) rfl (by rw [hb]; exact hdg) hframes (by show 2 * 0 + _ + _ ≤ _; omega)
  have e1 : copied (arrV c0 n0 (fun j => mk (f j))) (arrV c1 n1 (fun j => mk (g j))) sp dp n = arrV c1 n1 (fun j => mk (va_cpy f g sp.toNatClampNeg dp.toNatClampNeg n.toNatClampNeg j)) := va_copied mk c0 c1 f g h4
  rw [e1] at X' step
  have hl : a < H.size := (Array.getElem?_eq_some_iff.mp hc1).1
  have hheap : ((T.setVm vm').setCell a (arrV c1 n1 (fun j => mk (va_cpy f g sp.toNatClampNeg dp.toNatClampNeg n.toNatClampNeg j)))).heap = H.setIfInBounds a (arrV c1 n1 (fun j => mk (va_cpy f g sp.toNatClampNeg dp.toNatClampNeg n.toNatClampNeg j))) := by rw [← hT]; rfl
  obtain ⟨t, a1, b1⟩ := kk _ _ (show (H.setIfInBounds a _)[a]? = some _ by simp [Array.getElem?_setIfInBounds, hl]) (by simp) (fun q hq => by simp [Array.getElem?_setIfInBounds, Ne.symm hq]) (fun q hq => by
      rcases List.mem_append.mp hq with h | h
      · exact Or.inl h
      · obtain ⟨z, -, hz⟩ := List.mem_map.mp h
        exact Or.inr (by rw [← hz])) _ hheap X'
  exact ⟨t, step t a1, b1⟩
/-- what a copy asks of the words -/
def CpOk (own : String) (ix : Nat) : Prop := Cond.methodLink own ix arraycopyName ∈ WS ∧ Cond.native arraycopyName ∈ WS ∧ Cond.static arraycopyName ∈ WS ∧ Cond.initialized "java/lang/System" ∈ WS
def cpy {α : Type} (f g : Nat → α) (sp dp n : Nat) : Nat → α := fun k => if dp ≤ k ∧ k < dp + n then f (sp + (k - dp)) else g k
theorem ent_rI1 {G : Gd} {h : Ah} {a N : Nat} {f : Nat → Int32} (hk : kd h a = (1, N)) : ent G (rI h a f) a = .inl (G.2.2.1 1, N, .inl f) := by
  rw [ent_1 (G := G) (show kd (rI h a f) a = (1, N) from hk), gI_rI, if_pos rfl]
theorem ent_rL2 {G : Gd} {h : Ah} {a N : Nat} {f : Nat → Int64} (hk : kd h a = (2, N)) : ent G (rL h a f) a = .inl (G.2.2.1 2, N, .inr (.inl f)) := by
  rw [ent_2 (G := G) (show kd (rL h a f) a = (2, N) from hk), gL_rL, if_pos rfl]
section OUT
variable {G : Gd} {M : Mi} {d c n : Nat} {K : Ah → Option Value → Prop} {pc : Nat} {ls : List (Option Value)} {st : List Value} {h : Ah}
theorem AW.copyI {ix a a0 n0 n1 : Nat} {sp dp k : Int32} (hC : CpOk M.1.cls ix) (hk0 : kd h a0 = (1, n0)) (hk1 : kd h a = (1, n1)) (h1 : ¬ sp < 0) (h2 : ¬ dp < 0) (h3 : ¬ k < 0) (h4 : sp.toNatClampNeg + k.toNatClampNeg ≤ n0) (h5 : dp.toNatClampNeg + k.toNatClampNeg ≤ n1) (hr : (st.map fun v => v.category).sum ≤ 8) (hd : decode M.2.1 pc = .ok (.invokestatic ix, 3))
    (kk : AW G M (d + 1) c n K (pc + 3) ls st (rI h a (cpy (gI h a0) (gI h a) sp.toNatClampNeg dp.toNatClampNeg k.toNatClampNeg))) : AW G M (d + 1) c n K pc ls (.int k :: .int dp :: .ref a :: .int sp :: .ref a0 :: st) h := by
  intro p l e R s m args below meth cd Q H locs cells slots L F g1 g2 hH hS hL
  have hw := F.2.2.2.2.1
  obtain ⟨r1, r2⟩ := F.2.2.2.2.2.2.1
  obtain ⟨w1, w2, w3, w4⟩ := hC
  have hne := kd_ne hk1 (by decide)
  have hat0 := hH.at (ent_1 (G := G) hk0) (kd_ne hk0 (by decide))
  have hat1 := hH.at (ent_1 (G := G) hk1) hne
  have hD := wl_D G h
  have hT := (F.2.2.2.2.2.2.2.1.2 1 _ rfl).1
  refine copyAny (ty := .int) Value.int F.1 F.2.1 (F.2.2.1.trans hL.1.symm) F.2.2.2.1 (hw _ w1) (hw _ w2) (hw _ w3) (hw _ w4) (hH.2.2 _ _ hat0) (hH.2.2 _ _ hat1) hT hT rfl h1 h2 h3 h4 h5 (fun _ => rfl) (fun _ _ _ => trivial) (by omega) (by rw [cv_cats]; show _ + (5 + 2 + 11) ≤ _; omega) hd fun H1 locs1 e1 e2 e3 e4 => ?_
  have hP1 := hH.2.2.set hD hat1 (e := .inl (G.2.2.1 1, n1, .inl (cpy (gI h a0) (gI h a) sp.toNatClampNeg dp.toNatClampNeg k.toNatClampNeg))) e1 e3
  refine kk p l e R s m args below meth cd Q H1 locs1 cells slots L F g1 g2 (hH.put hne hP1 e2 (ent_rI1 hk1) rfl (fun _ => rfl) (fun b hb => ent_rI G h a b _ hb)) ⟨by rw [e2]; exact hS.1, fun q q1 q2 => ?_, fun q hq => ?_⟩ hL
  · rw [e3 q (fun z => q2 (by rw [z]; exact hD.2 _ _ hat1))]
    exact hS.2.1 q q1 q2
  · rcases e4 q hq with z | z
    · exact hS.2.2 q z
    · rw [z]; exact hD.2 _ _ hat1
theorem AW.copyL {ix a a0 n0 n1 : Nat} {sp dp k : Int32} (hC : CpOk M.1.cls ix) (hk0 : kd h a0 = (2, n0)) (hk1 : kd h a = (2, n1)) (h1 : ¬ sp < 0) (h2 : ¬ dp < 0) (h3 : ¬ k < 0) (h4 : sp.toNatClampNeg + k.toNatClampNeg ≤ n0) (h5 : dp.toNatClampNeg + k.toNatClampNeg ≤ n1) (hr : (st.map fun v => v.category).sum ≤ 8) (hd : decode M.2.1 pc = .ok (.invokestatic ix, 3))
    (kk : AW G M (d + 1) c n K (pc + 3) ls st (rL h a (cpy (gL h a0) (gL h a) sp.toNatClampNeg dp.toNatClampNeg k.toNatClampNeg))) : AW G M (d + 1) c n K pc ls (.int k :: .int dp :: .ref a :: .int sp :: .ref a0 :: st) h := by
  intro p l e R s m args below meth cd Q H locs cells slots L F g1 g2 hH hS hL
  have hw := F.2.2.2.2.1
  obtain ⟨r1, r2⟩ := F.2.2.2.2.2.2.1
  obtain ⟨w1, w2, w3, w4⟩ := hC
  have hne := kd_ne hk1 (by decide)
  have hat0 := hH.at (ent_2 (G := G) hk0) (kd_ne hk0 (by decide))
  have hat1 := hH.at (ent_2 (G := G) hk1) hne
  have hD := wl_D G h
  have hT := (F.2.2.2.2.2.2.2.1.2 2 _ rfl).1
  refine copyAny (ty := .long) Value.long F.1 F.2.1 (F.2.2.1.trans hL.1.symm) F.2.2.2.1 (hw _ w1) (hw _ w2) (hw _ w3) (hw _ w4) (hH.2.2 _ _ hat0) (hH.2.2 _ _ hat1) hT hT rfl h1 h2 h3 h4 h5 (fun _ => rfl) (fun _ _ _ => trivial) (by omega) (by rw [cv_cats]; show _ + (5 + 2 + 11) ≤ _; omega) hd fun H1 locs1 e1 e2 e3 e4 => ?_
  have hP1 := hH.2.2.set hD hat1 (e := .inl (G.2.2.1 2, n1, .inr (.inl (cpy (gL h a0) (gL h a) sp.toNatClampNeg dp.toNatClampNeg k.toNatClampNeg)))) e1 e3
  refine kk p l e R s m args below meth cd Q H1 locs1 cells slots L F g1 g2 (hH.put hne hP1 e2 (ent_rL2 hk1) rfl (fun _ => rfl) (fun b hb => ent_rL G h a b _ hb)) ⟨by rw [e2]; exact hS.1, fun q q1 q2 => ?_, fun q hq => ?_⟩ hL
  · rw [e3 q (fun z => q2 (by rw [z]; exact hD.2 _ _ hat1))]
    exact hS.2.1 q q1 q2
  · rcases e4 q hq with z | z
    · exact hS.2.2 q z
    · rw [z]; exact hD.2 _ _ hat1
/-! tables and texts: the cells 0, 1; 2 .. 12 and their bytes 13 .. 23; 24; the script 25 -/
theorem AW.gets0 {ix : Nat} (hl : Cond.fieldLink M.1.cls ix RX11 "BOAT_LEAST" "[I" ∈ WS) (hd : decode M.2.1 pc = .ok (.getstatic ix, 3)) (kk : AW G M d c n K (pc + 3) ls (.ref 0 :: st) h) : AW G M d c n K pc ls st h := by
  intro p l e R s m args below meth cd Q H locs cells slots L F h1 h2 hH hS hL
  exact va_gets F.1 F.2.1 F.2.2.2.2.2.2.2.2.1.1.1 hS F.2.2.2.1 (F.2.2.2.2.1 _ hl) (fun _ q => q) hd (kk p l e R s m args below meth cd Q H locs cells slots L F h1 h2 hH hS hL)
theorem AW.gets1 {ix : Nat} (hl : Cond.fieldLink M.1.cls ix RX11 "BOAT_MOST" "[I" ∈ WS) (hd : decode M.2.1 pc = .ok (.getstatic ix, 3)) (kk : AW G M d c n K (pc + 3) ls (.ref 1 :: st) h) : AW G M d c n K pc ls st h := by
  intro p l e R s m args below meth cd Q H locs cells slots L F h1 h2 hH hS hL
  exact va_gets F.1 F.2.1 F.2.2.2.2.2.2.2.2.1.2.1.1 hS F.2.2.2.1 (F.2.2.2.2.1 _ hl) (fun _ q => q) hd (kk p l e R s m args below meth cd Q H locs cells slots L F h1 h2 hH hS hL)
theorem AW.getsC {ix : Nat} (hl : Cond.fieldLink M.1.cls ix RJ0 "COMPACT_STRINGS" "Z" ∈ WS) (hd : decode M.2.1 pc = .ok (.getstatic ix, 3)) (kk : AW G M d c n K (pc + 3) ls (.int 1 :: st) h) : AW G M d c n K pc ls st h := by
  intro p l e R s m args below meth cd Q H locs cells slots L F h1 h2 hH hS hL
  exact va_gets F.1 F.2.1 F.2.2.2.2.2.2.2.2.1.2.2.1 hS F.2.2.2.1 (F.2.2.2.2.1 _ hl) (fun _ q => q) hd (kk p l e R s m args below meth cd Q H locs cells slots L F h1 h2 hH hS hL)
theorem AW.getsF {ix : Nat} (hl : Cond.fieldLink M.1.cls ix RJ3 "SIOOBE_FORMATTER" "Ljava/util/function/BiFunction;" ∈ WS) (hd : decode M.2.1 pc = .ok (.getstatic ix, 3)) (kk : ∀ o : Option Nat, AW G M d c n K (pc + 3) ls (va_rf o :: st) h) : AW G M d c n K pc ls st h := by
  intro p l e R s m args below meth cd Q H locs cells slots L F h1 h2 hH hS hL
  rcases F.2.2.2.2.2.2.2.2.1.2.2.2.1 with q | q
  · exact va_gets F.1 F.2.1 q hS F.2.2.2.1 (F.2.2.2.2.1 _ hl) (fun _ q => q) hd (kk none p l e R s m args below meth cd Q H locs cells slots L F h1 h2 hH hS hL)
  · exact va_gets F.1 F.2.1 q hS F.2.2.2.1 (F.2.2.2.2.1 _ hl) (fun _ q => q) hd (kk (some 24) p l e R s m args below meth cd Q H locs cells slots L F h1 h2 hH hS hL)
theorem AW.tab0 {i x : Int32} (hin : vp_in i 4) (hv : xl0 i.toNatClampNeg = x) (hd : decode M.2.1 pc = .ok (.iaload, 1)) (kk : AW G M d c n K (pc + 1) ls (.int x :: st) h) : AW G M d c n K pc ls (.int i :: .ref 0 :: st) h := by
  intro p l e R s m args below meth cd Q H locs cells slots L F h1 h2 hH hS hL
  exact va_ti F.1 F.2.1 F.2.2.2.2.2.2.2.2.1.1.2 hS hin (v := .int x) (by rw [hv]) hd (kk p l e R s m args below meth cd Q H locs cells slots L F h1 h2 hH hS hL)
theorem AW.tab1 {i x : Int32} (hin : vp_in i 4) (hv : xl1 i.toNatClampNeg = x) (hd : decode M.2.1 pc = .ok (.iaload, 1)) (kk : AW G M d c n K (pc + 1) ls (.int x :: st) h) : AW G M d c n K pc ls (.int i :: .ref 1 :: st) h := by
  intro p l e R s m args below meth cd Q H locs cells slots L F h1 h2 hH hS hL
  exact va_ti F.1 F.2.1 F.2.2.2.2.2.2.2.2.1.2.1.2 hS hin (v := .int x) (by rw [hv]) hd (kk p l e R s m args below meth cd Q H locs cells slots L F h1 h2 hH hS hL)
theorem AW.scr {i x : Int32} (hin : vp_in i G.2.2.2.2.1) (hv : G.2.2.2.2.2 i.toNatClampNeg = x) (hd : decode M.2.1 pc = .ok (.iaload, 1)) (kk : AW G M d c n K (pc + 1) ls (.int x :: st) h) : AW G M d c n K pc ls (.int i :: .ref 25 :: st) h := by
  intro p l e R s m args below meth cd Q H locs cells slots L F h1 h2 hH hS hL
  have hE := F.2.2.2.2.2.2.2.2.1
  obtain ⟨-, -, -, -, -, -, -, -, -, -, -, -, x0⟩ := hE
  exact va_ti F.1 F.2.1 x0 hS hin (v := .int x) (by rw [hv]) hd (kk p l e R s m args below meth cd Q H locs cells slots L F h1 h2 hH hS hL)
theorem AW.scrLen {v : Int32} (hv : Int32.ofNat G.2.2.2.2.1 = v) (hd : decode M.2.1 pc = .ok (.arraylength, 1)) (kk : AW G M d c n K (pc + 1) ls (.int v :: st) h) : AW G M d c n K pc ls (.ref 25 :: st) h := by
  intro p l e R s m args below meth cd Q H locs cells slots L F h1 h2 hH hS hL
  have hE := F.2.2.2.2.2.2.2.2.1
  obtain ⟨-, -, -, -, -, -, -, -, -, -, -, -, x0⟩ := hE
  exact va_tlen F.1 F.2.1 x0 hS hv hd (kk p l e R s m args below meth cd Q H locs cells slots L F h1 h2 hH hS hL)
theorem AW.ldcS {i : Nat} (hi : i < 11) (hM : M.1.cls = RX8) (hd : decode M.2.1 pc = .ok (.ldc (sIx i), 2)) (kk : AW G M d c n K (pc + 2) ls (.ref (2 + i) :: st) h) : AW G M d c n K pc ls st h := by
  intro p l e R s m args below meth cd Q H locs cells slots L F h1 h2 hH hS hL
  have hE := F.2.2.2.2.2.2.2.2.1
  obtain ⟨-, -, -, -, -, hR, -⟩ := hE
  have hown := F.2.2.2.1
  rw [hM] at hown
  exact va_ldcS F.1 F.2.1 hown (hR i hi) hd (kk p l e R s m args below meth cd Q H locs cells slots L F h1 h2 hH hS hL)
theorem AW.sVal {i ix : Nat} (hi : i < 11) (hl : Cond.fieldLink M.1.cls ix RJ0 "value" "[B" ∈ WS) (hd : decode M.2.1 pc = .ok (.getfield ix, 3)) (kk : AW G M d c n K (pc + 3) ls (.ref (13 + i) :: st) h) : AW G M d c n K pc ls (.ref (2 + i) :: st) h := by
  intro p l e R s m args below meth cd Q H locs cells slots L F h1 h2 hH hS hL
  have hE := F.2.2.2.2.2.2.2.2.1
  obtain ⟨-, -, -, -, hV, -⟩ := hE
  exact vk_getf F.1 F.2.1 (hV.1 i hi).2.2.1 hS F.2.2.2.1 (F.2.2.2.2.1 _ hl) (fun _ q => q) hd (kk p l e R s m args below meth cd Q H locs cells slots L F h1 h2 hH hS hL)
theorem AW.sCod {i ix : Nat} (hi : i < 11) (hl : Cond.fieldLink M.1.cls ix RJ0 "coder" "B" ∈ WS) (hd : decode M.2.1 pc = .ok (.getfield ix, 3)) (kk : AW G M d c n K (pc + 3) ls (.int 0 :: st) h) : AW G M d c n K pc ls (.ref (2 + i) :: st) h := by
  intro p l e R s m args below meth cd Q H locs cells slots L F h1 h2 hH hS hL
  have hE := F.2.2.2.2.2.2.2.2.1
  obtain ⟨-, -, -, -, hV, -⟩ := hE
  exact vk_getf F.1 F.2.1 (hV.1 i hi).2.1 hS F.2.2.2.1 (F.2.2.2.2.1 _ hl) (fun _ q => q) hd (kk p l e R s m args below meth cd Q H locs cells slots L F h1 h2 hH hS hL)
theorem AW.sLn {i : Nat} {v : Int32} (hi : i < 11) (hv : Int32.ofNat (sLen.getD i 0) = v) (hd : decode M.2.1 pc = .ok (.arraylength, 1)) (kk : AW G M d c n K (pc + 1) ls (.int v :: st) h) : AW G M d c n K pc ls (.ref (13 + i) :: st) h := by
  intro p l e R s m args below meth cd Q H locs cells slots L F h1 h2 hH hS hL
  have hE := F.2.2.2.2.2.2.2.2.1
  obtain ⟨-, -, -, -, hV, -⟩ := hE
  exact va_tlen F.1 F.2.1 (hV.1 i hi).2.2.2 hS hv hd (kk p l e R s m args below meth cd Q H locs cells slots L F h1 h2 hH hS hL)
theorem AW.sAt {i : Nat} {j x : Int32} (hi : i < 11) (hin : vp_in j (sLen.getD i 0)) (hv : (sByt.getD i []).getD j.toNatClampNeg 0 = x) (hd : decode M.2.1 pc = .ok (.baload, 1)) (kk : AW G M d c n K (pc + 1) ls (.int x :: st) h) : AW G M d c n K pc ls (.int j :: .ref (13 + i) :: st) h := by
  intro p l e R s m args below meth cd Q H locs cells slots L F h1 h2 hH hS hL
  have hE := F.2.2.2.2.2.2.2.2.1
  obtain ⟨-, -, -, -, hV, -⟩ := hE
  exact va_tb F.1 F.2.1 (hV.1 i hi).2.2.2 hS hin (v := .int x) (by rw [hv]) hd (kk p l e R s m args below meth cd Q H locs cells slots L F h1 h2 hH hS hL)
/-- a method of a text -/
def SvOk (own : String) (ix : Nat) (Y : Mi) (k : Nat) : Prop := YOk Y ∧ YN Y.1 k ∧ Cond.methodLink own ix Y.1 ∈ WS ∧ Cond.instanceMethod Y.1 ∈ WS ∧ Cond.selects RJ0 Y.1 Y.1 ∈ WS
theorem AW.invx {ix k i c1 n1 : Nat} {Y : Mi} {as rest : List Value} (hY : SvOk M.1.cls ix Y k) (hi : i < 11) (hd : decode M.2.1 pc = .ok (.invokevirtual ix, 3)) (hst : as.reverse ++ .ref (2 + i) :: rest = st) (hk : as.length = k) (hr : (rest.map fun v => v.category).sum ≤ 8)
    (kk : AM G d c1 n1 Y (.ref (2 + i) :: as) h (fun h' v => AW G M (d + 1) c n K (pc + 3) ls (v.toList ++ rest) h')) : AW G M (d + 1) (c1 + c) (n1 + n) K pc ls st h := by
  intro p l e R s m args below meth cd Q H locs cells slots L F h1 h2 hH hS hL
  obtain ⟨y1, y2, y3, y4, y6⟩ := hY
  subst hst
  rw [mapRev]
  have hw := F.2.2.2.2.1
  have hE := F.2.2.2.2.2.2.2.2.1
  obtain ⟨-, -, -, -, hV, -⟩ := hE
  exact run_on (va_runV (As := as.map (cv G)) (C := RJ0) (b := ad G (2 + i)) (rest := rest.map (cv G)) (fix_go F) (kk l) ⟨callB_go F y1 y2 y3, hw _ y4, hw _ y6⟩ ⟨pc_blind G (.ref (2 + i) :: as) h, vk_recv (adK := fun i => ad G (2 + i)) (i := i) hV hi hS, pre_go (as := .ref (2 + i) :: as) F hH hS⟩ rfl (by rw [List.length_map]; exact hk) (hL.1) rfl (room_go hr) hd ⟨by omega, by omega⟩) hS
    fun v h' H1 locs1 q hH1 hS1 => q p l e R s m args below meth cd Q H1 locs1 (cells + c1) (slots + n1) L F (by omega) (by omega) hH1 hS1 hL
/-! instanceof -/
theorem AW.instY {a ix ci : Nat} {r : vw_C} {T : String} (hk : kd h a = (0, ci)) (hc : cls[ci]? = some r) (hl : Cond.classLink M.1.cls ix T ∈ WS) (hw : r.1 = T ∨ Cond.castable r.1 T ∈ nwL) (hd : decode M.2.1 pc = .ok (.instanceof ix, 3)) (kk : AW G M d c n K (pc + 3) ls (.int 1 :: st) h) : AW G M d c n K pc ls (.ref a :: st) h := by
  intro p l e R s m args below meth cd Q H locs cells slots L F h1 h2 hH hS hL
  have hE := F.2.2.2.2.2.2.2.2.1
  have hr := va_recv F.2.2.2.2.2.2.2.1 hH.2.2 hc (hH.at (ent_o hk) (kd_ne hk (by decide)))
  rcases hw with rfl | hw
  · exact va_instS F.1 F.2.1 F.2.2.2.1 (F.2.2.2.2.1 _ hl) (F.2.2.2.2.2.2.2.1.1 ci r hc).2 hr hd (kk p l e R s m args below meth cd Q H locs cells slots L F h1 h2 hH hS hL)
  · exact va_instY F.1 F.2.1 F.2.2.2.1 (F.2.2.2.2.1 _ hl) (hE.2.2.2.2.2.2.1 _ hw) hr hd (kk p l e R s m args below meth cd Q H locs cells slots L F h1 h2 hH hS hL)
theorem AW.instN {a ix ci : Nat} {r : vw_C} {T : String} (hk : kd h a = (0, ci)) (hc : cls[ci]? = some r) (hl : Cond.classLink M.1.cls ix T ∈ WS) (hw : (r.1, T) ∈ ncL) (hd : decode M.2.1 pc = .ok (.instanceof ix, 3)) (kk : AW G M d c n K (pc + 3) ls (.int 0 :: st) h) : AW G M d c n K pc ls (.ref a :: st) h := by
  intro p l e R s m args below meth cd Q H locs cells slots L F h1 h2 hH hS hL
  have hE := F.2.2.2.2.2.2.2.2.1
  have hr := va_recv F.2.2.2.2.2.2.2.1 hH.2.2 hc (hH.at (ent_o hk) (kd_ne hk (by decide)))
  exact va_instNo F.1 F.2.1 F.2.2.2.1 (F.2.2.2.2.1 _ hl) (hE.2.2.2.2.2.2.2.1 _ hw) hr hd (kk p l e R s m args below meth cd Q H locs cells slots L F h1 h2 hH hS hL)
end OUT
