/-! THE CLAIM OUT OF ONE WALK OF THE LAW'S BODY. Your part is whole_start (and what it stands on); all else here is the same for every law, but numbers. -/
def R_law : String := "LastKegLaw"
def lw_P (b : Addr) (xs : List Int32) (args : Array Value) (s : State) : Prop := args = #[.ref b] ∧ s.IntsAt b xs ∧ xs.length ≤ 3072 ∧ (Jvm.Cond.and given_1 narrow_1).before args s = true
def lw_Q (_ : Array Value) (s : State) (o : Outcome) (t : State) : Prop := o = .returned (some (.int 1)) ∧ Framed s o t [] room_1.cells room_1.slots
def lw_Z (below : List Frame) (a : Array Value) (s : State) : State → Prop := fun t => ∃ o, t.status = .running ∧ Ended t below o ∧ lw_Q a s o t
/-- the law's own end, with 1 on the stack, nothing written that was there before, its room as the claim has it -/
theorem lw_ret {p : Program} {l : Launch} {e : Env} {s : State} {m : MethodId} {below : List Frame} {meth : Method} {c : Code} {b : Nat} (hx : p.tables.exec = Jvm.exec) (hb : c.code = code) (hr : meth.sig.returnType = ret) (hlocks : meth.locks = false) {pc : Nat} {H : Heap} {ls : Array Slot} (hdg : decode code pc = .ok (.ireturn, 1)) : W p l e room_1 s m #[Value.ref b] below meth c H [] room_1.cells room_1.slots (lw_Z below #[Value.ref b] s) (F0 m pc ls [.int 1]) := by
  intro T hT X
  obtain ⟨fs, hret, hrun, hended, hW, hframe⟩ := X.leave (v := some (.int 1)) (hlocks := hlocks) (fun h => by rw [hr] at h; cases h)
  have hmeth' : T.vm.method? m = some meth := X.method'
  refine ⟨T.setFrames fs, ?_, .returned (some (.int 1)), hrun, hended, rfl, ⟨_, rfl⟩, hW, hframe⟩
  jvm_step X.here [X.here.top, hx, hb, hdg, hmeth', hr, ret, narrow_b1]
  (try refine ⟨rfl, ?_⟩); (try refine ⟨rfl, ?_⟩)
  first | (intro acts; rw [hret _ acts rfl rfl rfl]) | rw [hret _ _ rfl rfl rfl]
  exact Steps.refl _
/-- what holds at the law's entry: the machine, the code, the tables' words (any of lw_tbl by 'hts w (by decide +kernel)'), the script of L ints xs at the cell b, what the Statement gives of the start (any of its parts by flat_of_before) -/
def lw_At (p : Program) (s : State) (m : MethodId) (meth : Method) (c : Code) (b L : Nat) (xs : Nat → Int32) : Prop :=
  p.tables.exec = Jvm.exec ∧ c.code = code ∧ meth.sig.returnType = ret ∧ c.maxLocals = 4 ∧ s.vm.findClass R_law = some m.cls ∧ (∀ w ∈ lw_tbl, w.before #[Value.ref b] s = true) ∧ va_X b L xs s s.heap ∧ b < s.heap.size ∧ meth.locks = false ∧ (Jvm.Cond.and given_1 narrow_1).before #[Value.ref b] s = true
theorem en_Ex {s : State} {args : Array Value} (hts : ∀ w ∈ lw_tbl, w.before args s = true) (hg : gvn.before args s = true) {b L : Nat} {xs : Nat → Int32} (hX : va_T .int b L (fun j => .int (xs j)) (fun q => s.heap.size ≤ q) s s.heap) (D : va_G) (cA : Nat → ClassId) : ∃ ext : Nat → Nat, ext 25 = b ∧ Ex (s.heap.size, D, cA, ext, L, xs) s s.heap := by
  have hA : ∀ a : Nat, a < s.heap.size → ¬ s.heap.size ≤ a := fun a h q => by omega
  obtain ⟨t0, a1, a2⟩ := en_xl0 (A := fun q => s.heap.size ≤ q) hts hg hA
  obtain ⟨t1, b1, b2⟩ := en_xl1 (A := fun q => s.heap.size ≤ q) hts hg hA
  obtain ⟨kK, kV, c1, c2⟩ := en_str (A := fun q => s.heap.size ≤ q) hts hg hA
  have c3 := en_cs (A := fun q => s.heap.size ≤ q) hts hg hA
  have d1 := en_sf (A := fun q => s.heap.size ≤ q) hts hg hA
  obtain ⟨e1, e2, e3, e4⟩ := en_ao hts
  have hf : ∃ f : Nat, va_Z RJ3 "SIOOBE_FORMATTER" "Ljava/util/function/BiFunction;" .null (fun q => s.heap.size ≤ q) s s.heap ∨ va_Z RJ3 "SIOOBE_FORMATTER" "Ljava/util/function/BiFunction;" (.ref f) (fun q => s.heap.size ≤ q) s s.heap := by
    rcases d1 with d | ⟨f, d⟩
    · exact ⟨0, Or.inl d⟩
    · exact ⟨f, Or.inr d⟩
  obtain ⟨f, hf⟩ := hf
  have g1 : ∀ i, i < 11 → ad (s.heap.size, D, cA, (fun a => if a = 0 then t0 else if a = 1 then t1 else if a = 24 then f else if a = 25 then b else if a < 13 then kK (a - 2) else kV (a - 13)), L, xs) (2 + i) = kK i := by
    intro i hi
    unfold ad
    rw [if_pos (by omega)]
    show (if 2 + i = 0 then t0 else if 2 + i = 1 then t1 else if 2 + i = 24 then f else if 2 + i = 25 then b else if 2 + i < 13 then kK (2 + i - 2) else kV (2 + i - 13)) = _
    rw [if_neg (by omega), if_neg (by omega), if_neg (by omega), if_neg (by omega), if_pos (by omega), Nat.add_sub_cancel_left]
  have g2 : ∀ i, i < 11 → ad (s.heap.size, D, cA, (fun a => if a = 0 then t0 else if a = 1 then t1 else if a = 24 then f else if a = 25 then b else if a < 13 then kK (a - 2) else kV (a - 13)), L, xs) (13 + i) = kV i := by
    intro i hi
    unfold ad
    rw [if_pos (by omega)]
    show (if 13 + i = 0 then t0 else if 13 + i = 1 then t1 else if 13 + i = 24 then f else if 13 + i = 25 then b else if 13 + i < 13 then kK (13 + i - 2) else kV (13 + i - 13)) = _
    rw [if_neg (by omega), if_neg (by omega), if_neg (by omega), if_neg (by omega), if_neg (by omega), Nat.add_sub_cancel_left]
  refine ⟨fun a => if a = 0 then t0 else if a = 1 then t1 else if a = 24 then f else if a = 25 then b else if a < 13 then kK (a - 2) else kV (a - 13), rfl, ⟨a1, a2⟩, ⟨b1, b2⟩, c3, hf, ?_, ?_, en_nw hts, en_nc hg, e1, e2, e3, e4, hX⟩
  · refine ⟨fun i hi => ?_, fun i j hi hj e => c1.2 i j hi hj ?_⟩
    · have cong : ∀ (x y : Nat), kK i = x → kV i = y → va_O "java/lang/String" x (fun q => s.heap.size ≤ q) s s.heap ∧ va_OF "java/lang/String" "coder" "B" (.int 0) x (fun q => s.heap.size ≤ q) s s.heap ∧ va_OF "java/lang/String" "value" "[B" (.ref y) x (fun q => s.heap.size ≤ q) s s.heap ∧ va_T .byte y (sLen.getD i 0) (fun j => .int ((sByt.getD i []).getD j 0)) (fun q => s.heap.size ≤ q) s s.heap := by
        intro x y e1 e2
        subst e1
        subst e2
        exact c1.1 i hi
      exact cong _ _ (g1 i hi).symm (g2 i hi).symm
    · have e : ad _ (2 + i) = ad _ (2 + j) := e
      rw [g1 i hi, g1 j hj] at e
      exact e
  · intro i hi
    rw [g1 i hi]
    exact c2 i hi
