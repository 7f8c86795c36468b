/-! ===== calls ===== -/
def YOk (Y : Mi) : Prop := Cond.code Y.1 Y.2.1 Y.2.2.1 Y.2.2.2 ∈ WS ∧ Cond.initialized Y.1.cls ∈ WS ∧ (Y.1.cls ≠ "java/lang/invoke/MethodHandle" ∧ Y.1.cls ≠ "java/lang/invoke/VarHandle") ∧ plainName Y.1.cls = true ∧ Y.2.2.1 ≤ 40
def YN (x : MethodName) (k : Nat) : Prop := (parseMethodDescriptor x.desc).map (fun d => d.parameters.length) = some k
theorem YN.of {x : MethodName} {k : Nat} (h : YN x k) : ∀ sig, parseMethodDescriptor x.desc = some sig → k = sig.parameters.length := fun sig q => by
  unfold YN at h
  rw [q] at h
  exact (Option.some.inj h).symm
theorem ws_self (Y : Mi) (hY : YOk Y) : ∀ w ∈ Cond.code Y.1 Y.2.1 Y.2.2.1 Y.2.2.2 :: WS, w ∈ WS := fun w hw => by
  rcases List.mem_cons.mp hw with rfl | h
  · exact hY.1
  · exact h
theorem pc_blind (G : Gd) (as : List Value) (h : Ah) : FrameBlind (PcA G as h) := fun a U g mk q => by
  obtain ⟨q1, q2, q3, q4⟩ := q
  exact ⟨q1, q2, va_K.moved (u := U) (U := U.calling g mk a) (Vm.Alike.refl U.vm) q3, Ex.same (u := U) (U := U.calling g mk a) rfl q4⟩
section CALL
variable {G : Gd} {M : Mi} {d : Nat} {K : Ah → Option Value → Prop} {p : Program} {l : Launch} {e : Env} {R : Room} {s : State} {m : MethodId} {args : Array Value} {below : List Frame} {meth : Method} {cd : Code} {Q : State → Prop} {H : Heap} {locs : List Loc} {cells slots : Nat} {h : Ah}
theorem pre_go {as : List Value} (F : Fr G M d K p l e R s m args below meth cd Q) (hH : Hp G h H) (hS : va_S (zA G) s.heap H locs) : ∀ U : State, U.heap = H → s.WarmedH U.vm → PcA G as h (as.map (cv G)).toArray U := fun U hU hW =>
  ⟨rfl, by rw [hU]; exact hH, va_K.moved hW.alike F.2.2.2.2.2.2.2.1, Ex.warm hW (fun a h1 h2 => by rw [hU]; exact hS.2.1 a h1 h2) F.2.2.2.2.2.2.2.2.1⟩
theorem run_on {c1 n1 pc : Nat} {L : Array Slot} {st0 rest : List Value} {a : Array Value} {K' : Ah → Option Value → Prop} (hr : va_Run p l e R s m args below meth cd H locs cells slots c1 n1 (F0 m pc L st0) (rest.map (cv G)) (QcA G K' a) (zA G)) (hS : va_S (zA G) s.heap H locs)
    (hk : ∀ (v : Option Value) (h' : Ah) (H1 : Heap) (locs1 : List Loc), K' h' v → Hp G h' H1 → va_S (zA G) s.heap H1 locs1 → W p l e R s m args below meth cd H1 locs1 (cells + c1) (slots + n1) Q (F0 m (pc + 3) L ((v.toList ++ rest).map (cv G)))) : W p l e R s m args below meth cd H locs cells slots Q (F0 m pc L st0) := by
  intro T hT X
  obtain ⟨v0, st₀, t, T', L2, h0, X', hL, e1, e2, ⟨⟨v, h', hv, hk', hp⟩, hz, hkp⟩, st⟩ := hr T hT X
  have hv0 : v0 = v.map (cv G) := Outcome.returned.inj hv
  subst hv0
  rw [h0] at hz hkp
  obtain ⟨t2, a1, b1⟩ := hk v h' T'.heap (locs ++ L2) hk' (by rw [e1]; exact hp)
    ⟨Nat.le_trans hS.1 (by rw [e1]; exact hz), fun q h1 h2 => by rw [e1, hkp q (Nat.lt_of_lt_of_le h1 hS.1) h2]; exact hS.2.1 q h1 h2, fun q hq => by
      rcases List.mem_append.mp hq with h | h
      · exact hS.2.2 q h
      · exact hL q h⟩ T' rfl X'
  refine ⟨t2, st t2 ?_, b1⟩
  have e3 : (v.map (cv G)).toList ++ rest.map (cv G) = (v.toList ++ rest).map (cv G) := by cases v <;> rfl
  show Steps p.tables e below (T'.setTop (F0 m (pc + 3) L ((v.map (cv G)).toList ++ rest.map (cv G)))) t2
  rw [e3]
  exact a1
end CALL
theorem callB_go {G : Gd} {M : Mi} {d : Nat} {K : Ah → Option Value → Prop} {p : Program} {l : Launch} {e : Env} {R : Room} {s : State} {m : MethodId} {args : Array Value} {below : List Frame} {meth : Method} {cd : Code} {Q : State → Prop} (F : Fr G M (d + 1) K p l e R s m args below meth cd Q) {Y : Mi} {ix k c1 n1 : Nat} (hY : YOk Y) (hn : YN Y.1 k) (hl : Cond.methodLink M.1.cls ix Y.1 ∈ WS) :
    CallB R s args M.1.cls ix Y.1 Y.2.1 Y.2.2.1 Y.2.2.2 (Cond.code Y.1 Y.2.1 Y.2.2.1 Y.2.2.2 :: WS) { frames := d, cells := c1, slots := n1, locals := 64 * d } c1 n1 k := by
  have hw := F.2.2.2.2.1
  obtain ⟨r1, r2⟩ := F.2.2.2.2.2.2.1
  obtain ⟨y1, y2, y3, y4, y5⟩ := hY
  exact callB_of (ws' := WS) k hw (ws_good (ws_self Y ⟨y1, y2, y3, y4, y5⟩)) rfl rfl rfl (hw _ y2) (hw _ hl) ⟨y3.1, y3.2, hn⟩ ⟨r1, by show 8 + (Y.2.2.1 + 11) + 64 * d ≤ R.locals; omega⟩
theorem fix_go {G : Gd} {M : Mi} {d : Nat} {K : Ah → Option Value → Prop} {p : Program} {l : Launch} {e : Env} {R : Room} {s : State} {m : MethodId} {args : Array Value} {below : List Frame} {meth : Method} {cd : Code} {Q : State → Prop} (F : Fr G M d K p l e R s m args below meth cd Q) : CallFix p m cd M.2.1 M.2.2.1 s args WS M.1.cls := ⟨F.1, F.2.1, F.2.2.1, F.2.2.2.1, F.2.2.2.2.1⟩
theorem mapRev (G : Gd) (as rest : List Value) : (as.reverse ++ rest).map (cv G) = (as.map (cv G)).reverse ++ rest.map (cv G) := by rw [List.map_append, List.map_reverse]
theorem room_go {G : Gd} {rest : List Value} {m : MethodId} {pc : Nat} {L : Array Slot} {st : List Value} (h : (rest.map fun v => v.category).sum ≤ 8) : 2 * (F0 m pc L st).monitorRoom + ((rest.map (cv G)).map fun v => v.category).sum ≤ 8 := lv_room (by rw [cv_cats]; exact h)
/-- what a static call, a call of a method of the receiver's own class, of a constructor asks of the words -/
def StOk (own : String) (ix : Nat) (Y : Mi) (k : Nat) : Prop := YOk Y ∧ YN Y.1 k ∧ Cond.methodLink own ix Y.1 ∈ WS ∧ Cond.static Y.1 ∈ WS
def ViOk (own : String) (ix ci : Nat) (Y : Mi) (k : Nat) : Prop := YOk Y ∧ YN Y.1 k ∧ Cond.methodLink own ix Y.1 ∈ WS ∧ Cond.instanceMethod Y.1 ∈ WS ∧ ∃ r : vw_C, cls[ci]? = some r ∧ Cond.selects r.1 Y.1 Y.1 ∈ WS
def InOk (own : String) (ix : Nat) (Y : Mi) (k : Nat) : Prop := YOk Y ∧ YN Y.1 k ∧ Cond.methodLink own ix Y.1 ∈ WS ∧ Cond.instanceMethod Y.1 ∈ WS ∧ Y.1.name = "<init>" ∧ Y.2.2.2 = none
def InnOk (own : String) (ix : Nat) (Y : Mi) (k : Nat) : Prop := YOk Y ∧ YN Y.1 k ∧ Cond.methodLinkNest own ix Y.1 RX11 ∈ nwL ∧ Cond.instanceMethod Y.1 ∈ WS ∧ Y.1.name = "<init>" ∧ Y.2.2.2 = none
/-- what is named is x, what runs is Y -/
def VuOk (own : String) (ix ci : Nat) (x : MethodName) (Y : Mi) (k : Nat) : Prop := YOk Y ∧ YN x k ∧ Cond.methodLink own ix x ∈ WS ∧ Cond.sameMethod x.cls x.cls x.name x.desc ∈ WS ∧ Cond.instanceMethod x ∈ WS ∧ (∃ b n r, Cond.code x b n r ∈ WS) ∧ (x.cls ≠ "java/lang/invoke/MethodHandle" ∧ x.cls ≠ "java/lang/invoke/VarHandle") ∧ Cond.instanceMethod Y.1 ∈ WS ∧ ∃ r : vw_C, cls[ci]? = some r ∧ Cond.selects r.1 x Y.1 ∈ WS
def SuOk (own : String) (ix : Nat) (Y : Mi) (k : Nat) : Prop := YOk Y ∧ YN Y.1 k ∧ Cond.methodLink own ix Y.1 ∈ WS ∧ Cond.sameMethod Y.1.cls Y.1.cls Y.1.name Y.1.desc ∈ WS ∧ Cond.superclass own Y.1.cls ∈ WS ∧ Cond.instanceMethod Y.1 ∈ WS ∧ Y.1.name ≠ "<init>"
section CALLS
variable {G : Gd} {M : Mi} {d c n : Nat} {K : Ah → Option Value → Prop} {pc : Nat} {ls : List (Option Value)} {st : List Value} {h : Ah}
theorem AW.invs {ix k c1 n1 : Nat} {Y : Mi} {as rest : List Value} (hY : StOk M.1.cls ix Y k) (hd : decode M.2.1 pc = .ok (.invokestatic ix, 3)) (hst : as.reverse ++ rest = st) (hk : as.length = k) (hr : (rest.map fun v => v.category).sum ≤ 8)
    (kk : AM G d c1 n1 Y as h (fun h' v => AW G M (d + 1) c n K (pc + 3) ls (v.toList ++ rest) h')) : AW G M (d + 1) (c1 + c) (n1 + n) K pc ls st h := by
  intro p l e R s m args below meth cd Q H locs cells slots L F h1 h2 hH hS hL
  obtain ⟨y1, y2, y3, y4⟩ := hY
  subst hst
  rw [mapRev]
  exact run_on (va_runS (As := as.map (cv G)) (fix_go F) (kk l) ⟨callB_go F y1 y2 y3, F.2.2.2.2.1 _ y4⟩ ⟨pc_blind G as h, pre_go F hH hS⟩ rfl (by rw [List.length_map]; exact hk) (hL.1) rfl (room_go hr) hd ⟨by omega, by omega⟩) hS
    fun v h' H1 locs1 q hH1 hS1 => q p l e R s m args below meth cd Q H1 locs1 (cells + c1) (slots + n1) L F (by omega) (by omega) hH1 hS1 hL
theorem AW.invv {ix ci k a c1 n1 : Nat} {Y : Mi} {as rest : List Value} (hY : ViOk M.1.cls ix ci Y k) (hka : kd h a = (0, ci)) (hd : decode M.2.1 pc = .ok (.invokevirtual ix, 3)) (hst : as.reverse ++ .ref a :: rest = st) (hk : as.length = k) (hr : (rest.map fun v => v.category).sum ≤ 8)
    (kk : AM G d c1 n1 Y (.ref a :: as) h (fun h' v => AW G M (d + 1) c n K (pc + 3) ls (v.toList ++ rest) h')) : AW G M (d + 1) (c1 + c) (n1 + n) K pc ls st h := by
  intro p l e R s m args below meth cd Q H locs cells slots L F h1 h2 hH hS hL
  obtain ⟨y1, y2, y3, y4, r, y5, y6⟩ := hY
  subst hst
  rw [mapRev]
  have hw := F.2.2.2.2.1
  exact run_on (va_runV (As := as.map (cv G)) (C := r.1) (b := ad G a) (rest := rest.map (cv G)) (fix_go F) (kk l) ⟨callB_go F y1 y2 y3, hw _ y4, hw _ y6⟩ ⟨pc_blind G (.ref a :: as) h, va_recv F.2.2.2.2.2.2.2.1 hH.2.2 y5 (hH.at (ent_o hka) (kd_ne hka (by decide))), pre_go (as := .ref a :: as) F hH hS⟩ rfl (by rw [List.length_map]; exact hk) (hL.1) rfl (room_go hr) hd ⟨by omega, by omega⟩) hS
    fun v h' H1 locs1 q hH1 hS1 => q p l e R s m args below meth cd Q H1 locs1 (cells + c1) (slots + n1) L F (by omega) (by omega) hH1 hS1 hL
theorem AW.invi {ix k a c1 n1 : Nat} {Y : Mi} {as rest : List Value} (hY : InOk M.1.cls ix Y k) (hd : decode M.2.1 pc = .ok (.invokespecial ix, 3)) (hst : as.reverse ++ .ref a :: rest = st) (hk : as.length = k) (hr : (rest.map fun v => v.category).sum ≤ 8)
    (kk : AM G d c1 n1 Y (.ref a :: as) h (fun h' v => AW G M (d + 1) c n K (pc + 3) ls (v.toList ++ rest) h')) : AW G M (d + 1) (c1 + c) (n1 + n) K pc ls st h := by
  intro p l e R s m args below meth cd Q H locs cells slots L F h1 h2 hH hS hL
  obtain ⟨y1, y2, y3, y4, y5, y6⟩ := hY
  subst hst
  rw [mapRev]
  have hw := F.2.2.2.2.1
  have hcb := callB_go (c1 := c1) (n1 := n1) F y1 y2 y3
  rw [y6] at hcb
  have hkl := kk l
  rw [y6] at hkl
  exact run_on (va_runI (As := as.map (cv G)) (b := ad G a) (rest := rest.map (cv G)) (fix_go F) hkl ⟨hcb, y5, hw _ y4⟩ ⟨pc_blind G (.ref a :: as) h, pre_go (as := .ref a :: as) F hH hS⟩ rfl (by rw [List.length_map]; exact hk) (hL.1) rfl (room_go hr) hd ⟨by omega, by omega⟩) hS
    fun v h' H1 locs1 q hH1 hS1 => q p l e R s m args below meth cd Q H1 locs1 (cells + c1) (slots + n1) L F (by omega) (by omega) hH1 hS1 hL
theorem AW.invn {ix k a c1 n1 : Nat} {Y : Mi} {as rest : List Value} (hY : InnOk M.1.cls ix Y k) (hd : decode M.2.1 pc = .ok (.invokespecial ix, 3)) (hst : as.reverse ++ .ref a :: rest = st) (hk : as.length = k) (hr : (rest.map fun v => v.category).sum ≤ 8)
    (kk : AM G d c1 n1 Y (.ref a :: as) h (fun h' v => AW G M (d + 1) c n K (pc + 3) ls (v.toList ++ rest) h')) : AW G M (d + 1) (c1 + c) (n1 + n) K pc ls st h := by
  intro p l e R s m args below meth cd Q H locs cells slots L F h1 h2 hH hS hL
  obtain ⟨y1, y2, y3, y4, y5, y6⟩ := hY
  subst hst
  rw [mapRev]
  have hw := F.2.2.2.2.1
  obtain ⟨r1, r2⟩ := F.2.2.2.2.2.2.1
  have hkl := kk l
  have hcb := va_cnB (R := R) (args := args) (own := M.1.cls) (index := ix) (y := Y.1) (bytes := Y.2.1) (maxL := Y.2.2.1) (ret := Y.2.2.2) (ws := Cond.code Y.1 Y.2.1 Y.2.2.1 Y.2.2.2 :: WS) (ws' := WS) (rm := { frames := d, cells := c1, slots := n1, locals := 64 * d }) (mc := c1) (ms := n1) k hw (ws_good (ws_self Y y1)) rfl rfl rfl (F.2.2.2.2.2.2.2.2.1.2.2.2.2.2.2.1 _ y3) (hw _ y1.2.1) ⟨y1.2.2.1.1, y1.2.2.1.2, y2⟩ ⟨r1, by obtain ⟨-, -, -, -, q⟩ := y1; show 8 + (Y.2.2.1 + 11) + 64 * d ≤ R.locals; omega⟩
  rw [y6] at hkl hcb
  exact run_on (va_runIN (As := as.map (cv G)) (b := ad G a) (rest := rest.map (cv G)) (fix_go F) hkl ⟨hcb, y5, hw _ y4⟩ ⟨pc_blind G (.ref a :: as) h, pre_go (as := .ref a :: as) F hH hS⟩ rfl (by rw [List.length_map]; exact hk) (hL.1) rfl (room_go hr) hd ⟨by omega, by omega⟩) hS
    fun v h' H1 locs1 q hH1 hS1 => q p l e R s m args below meth cd Q H1 locs1 (cells + c1) (slots + n1) L F (by omega) (by omega) hH1 hS1 hL
theorem AW.invu {ix ci k a c1 n1 : Nat} {x : MethodName} {Y : Mi} {as rest : List Value} (hY : VuOk M.1.cls ix ci x Y k) (hka : kd h a = (0, ci)) (hd : decode M.2.1 pc = .ok (.invokevirtual ix, 3)) (hst : as.reverse ++ .ref a :: rest = st) (hk : as.length = k) (hr : (rest.map fun v => v.category).sum ≤ 8)
    (kk : AM G d c1 n1 Y (.ref a :: as) h (fun h' v => AW G M (d + 1) c n K (pc + 3) ls (v.toList ++ rest) h')) : AW G M (d + 1) (c1 + c) (n1 + n) K pc ls st h := by
  intro p l e R s m args below meth cd Q H locs cells slots L F h1 h2 hH hS hL
  obtain ⟨y1, y2, y3, y4, y5, ⟨b0, m0, r0, y6⟩, y7, y8, r, y9, y10⟩ := hY
  subst hst
  rw [mapRev]
  have hw := F.2.2.2.2.1
  obtain ⟨r1, r2⟩ := F.2.2.2.2.2.2.1
  have hcu : va_CU R s args M.1.cls r.1 x.cls ix x Y.1 Y.2.1 Y.2.2.1 Y.2.2.2 (Cond.code Y.1 Y.2.1 Y.2.2.1 Y.2.2.2 :: WS) { frames := d, cells := c1, slots := n1, locals := 64 * d } c1 n1 k :=
    ⟨⟨rfl, rfl, r1, by obtain ⟨-, -, -, -, q⟩ := y1; show 8 + (Y.2.2.1 + 11) + 64 * d ≤ R.locals; omega, pay_in hw (ws_good (ws_self Y y1)), List.mem_cons_self⟩, hw _ y1.1, hw _ y1.2.1, y7, y2.of, hw _ y3, hw _ y4, va_Decl.of (hw _ y5) (hw _ y6), hw _ y10, hw _ y8⟩
  exact run_on (va_runU (As := as.map (cv G)) (C := r.1) (b := ad G a) (rest := rest.map (cv G)) (fix_go F) (kk l) hcu ⟨pc_blind G (.ref a :: as) h, va_recv F.2.2.2.2.2.2.2.1 hH.2.2 y9 (hH.at (ent_o hka) (kd_ne hka (by decide))), pre_go (as := .ref a :: as) F hH hS⟩ rfl (by rw [List.length_map]; exact hk) (hL.1) rfl (room_go hr) hd ⟨by omega, by omega⟩) hS
    fun v h' H1 locs1 q hH1 hS1 => q p l e R s m args below meth cd Q H1 locs1 (cells + c1) (slots + n1) L F (by omega) (by omega) hH1 hS1 hL
theorem AW.invsu {ix ci k a c1 n1 : Nat} {Y : Mi} {as rest : List Value} {C : String} {T : u_T} {N : Nat} (hY : SuOk M.1.cls ix Y k) (hka : kd h a = (0, ci)) (hc : cls[ci]? = some (C, T, N)) (hd : decode M.2.1 pc = .ok (.invokespecial ix, 3)) (hst : as.reverse ++ .ref a :: rest = st) (hk : as.length = k) (hr : (rest.map fun v => v.category).sum ≤ 8)
    (kk : AM G d c1 n1 Y (.ref a :: as) h (fun h' v => AW G M (d + 1) c n K (pc + 3) ls (v.toList ++ rest) h')) : AW G M (d + 1) (c1 + c) (n1 + n) K pc ls st h := by
  intro p l e R s m args below meth cd Q H locs cells slots L F h1 h2 hH hS hL
  obtain ⟨y1, y2, y3, y4, y5, y6, y7⟩ := hY
  subst hst
  rw [mapRev]
  have hw := F.2.2.2.2.1
  obtain ⟨r1, r2⟩ := F.2.2.2.2.2.2.1
  have hcs : va_CS R s args M.1.cls ix Y.1 Y.2.1 Y.2.2.1 Y.2.2.2 (Cond.code Y.1 Y.2.1 Y.2.2.1 Y.2.2.2 :: WS) { frames := d, cells := c1, slots := n1, locals := 64 * d } c1 n1 k :=
    ⟨⟨rfl, rfl, r1, by obtain ⟨-, -, -, -, q⟩ := y1; show 8 + (Y.2.2.1 + 11) + 64 * d ≤ R.locals; omega, pay_in hw (ws_good (ws_self Y y1)), List.mem_cons_self⟩, hw _ y3, hw _ y4, hw _ y5, hw _ y6, hw _ y1.2.1, hw _ y1.1, y7, y2.of⟩
  exact run_on (va_runSU (As := as.map (cv G)) (C := C) (b := ad G a) (rest := rest.map (cv G)) (F.2.2.2.2.2.2.2.1.1 ci _ hc).2 (fix_go F) (kk l) hcs ⟨pc_blind G (.ref a :: as) h, va_recv F.2.2.2.2.2.2.2.1 hH.2.2 hc (hH.at (ent_o hka) (kd_ne hka (by decide))), pre_go (as := .ref a :: as) F hH hS⟩ rfl (by rw [List.length_map]; exact hk) (hL.1) rfl (room_go hr) hd ⟨by omega, by omega⟩) hS
    fun v h' H1 locs1 q hH1 hS1 => q p l e R s m args below meth cd Q H1 locs1 (cells + c1) (slots + n1) L F (by omega) (by omega) hH1 hS1 hL
/-- Object.<init> -/
theorem AW.obj {ix a : Nat} (hl : Cond.methodLink M.1.cls ix Lib.objectInit ∈ WS) (hi : Cond.instanceMethod Lib.objectInit ∈ WS) (hc : Cond.code Lib.objectInit ⟨#[0xb1]⟩ 1 none ∈ WS) (hd : decode M.2.1 pc = .ok (.invokespecial ix, 3)) (hr : (st.map fun v => v.category).sum ≤ 8) (kk : AW G M (d + 1) c n K (pc + 3) ls st h) : AW G M (d + 1) c n K pc ls (.ref a :: st) h := by
  intro p l e R s m args below meth cd Q H locs cells slots L F h1 h2 hH hS hL
  have hw := F.2.2.2.2.1
  obtain ⟨r1, r2⟩ := F.2.2.2.2.2.2.1
  refine W.objInit F.1 F.2.1 F.2.2.2.1 (hw _ hl) (hw _ hi) (hw _ hc) rfl (by rw [F.2.2.1]; exact hL.1) rfl hd (by omega) ?_ ?_
  · have := room_go (G := G) (m := m) (pc := pc) (L := L) (st := []) hr
    have e1 : 2 * (F0 m pc L ([] : List Value)).monitorRoom = 0 := rfl
    show 2 * (F0 m pc L _).monitorRoom + _ + 12 ≤ _
    have e2 : 2 * (F0 m pc L (Value.ref (ad G a) :: st.map (cv G))).monitorRoom = 0 := rfl
    have e3 : 2 * (F0 m pc L (List.map (cv G) (Value.ref a :: st))).monitorRoom = 0 := rfl
    rw [e3]
    omega
  · exact kk p l e R s m args below meth cd Q H locs cells slots L F h1 h2 hH hS hL
end CALLS
