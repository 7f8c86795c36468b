/-! ===== new cells; copies; what lies outside; instanceof ===== -/
def NRef (own : String) (ix ci N : Nat) : Prop := ∃ (C : String) (T : u_T) (ty : Nat → FieldType), ClOk ci C T N ty ∧ Cond.classLink own ix C ∈ WS ∧ Cond.instantiable C N ∈ WS ∧ Cond.initialized C ∈ WS
theorem vp_V_fv (G : Gd) (h : Ah) (a : Nat) (ts : List Nat) {k : Nat} (hk : k < ts.length) : vp_V (fv G h a ts) k = if ts.getD k 0 = 0 then Value.int (gI h a k) else cr G (gR h a k) := by
  unfold vp_V
  rw [List.getD_eq_getElem?_getD, fv_at G h a ts hk]
  rfl
/-- arrays of one class: its number is known by its name -/
theorem ca_prim {G : Gd} {s : State} {t : Nat} {cA : ClassId} (hK : va_K G.2.1 cls (tysL G) s) (h1 : 1 ≤ t) (h3 : t ≤ 3) (hf : s.vm.findClass ("[" ++ (aty t).toString) = some cA) : cA = G.2.2.1 t := by
  have h := (hK.2 t _ (tys_at (G := G) h1 (by omega))).2
  rcases (show t = 1 ∨ t = 2 ∨ t = 3 by omega) with rfl | rfl | rfl
  · exact Option.some.inj (hf.symm.trans h)
  · exact Option.some.inj (hf.symm.trans h)
  · exact Option.some.inj (hf.symm.trans h)
theorem ca_obj {G : Gd} {s : State} {t : Nat} {cA : ClassId} {C : String} (hK : va_K G.2.1 cls (tysL G) s) (h1 : 4 ≤ t) (h3 : t ≤ 6) (hC : aty t = .object C) (hf : s.vm.findClass ("[" ++ (FieldType.object C).toString) = some cA) : cA = G.2.2.1 t := by
  have h := (hK.2 t _ (tys_at (G := G) (t := t) (by omega) (by omega))).2
  rw [hC] at h
  obtain ⟨kA, comp, -, -, -, h4⟩ := h
  exact Option.some.inj (hf.symm.trans h4)
theorem ca_int2 {G : Gd} {s : State} {cA : ClassId} (hK : va_K G.2.1 cls (tysL G) s) (hf : s.vm.findClass ("[" ++ (FieldType.array .int).toString) = some cA) : cA = G.2.2.1 7 := by
  have h := (hK.2 7 _ (tys_at (G := G) (t := 7) (by omega) (by omega))).2
  exact Option.some.inj (hf.symm.trans h)
theorem at_al1 {G : Gd} {h : Ah} {N : Nat} : ent G (al h (1, N)) (32 + nc h) = .inl (G.2.2.1 1, N, .inl (fun _ => 0)) := by
  rw [ent_1 (G := G) (show kd (al h (1, N)) (32 + nc h) = (1, N) from if_pos rfl), gI_al, if_pos rfl]
theorem at_al2 {G : Gd} {h : Ah} {N : Nat} : ent G (al h (2, N)) (32 + nc h) = .inl (G.2.2.1 2, N, .inr (.inl (fun _ => 0))) := by
  rw [ent_2 (G := G) (show kd (al h (2, N)) (32 + nc h) = (2, N) from if_pos rfl), gL_al, if_pos rfl]
theorem at_al3 {G : Gd} {h : Ah} {N : Nat} : ent G (al h (3, N)) (32 + nc h) = .inl (G.2.2.1 3, N, .inl (fun _ => 0)) := by
  rw [ent_3 (G := G) (show kd (al h (3, N)) (32 + nc h) = (3, N) from if_pos rfl), gI_al, if_pos rfl]
theorem at_alq {G : Gd} {h : Ah} {t N : Nat} : ent G (al h (t + 4, N)) (32 + nc h) = .inl (G.2.2.1 (t + 4), N, .inr (.inr (.inr (.inr (fun _ => none))))) := by
  rw [ent_q (G := G) (show kd (al h (t + 4, N)) (32 + nc h) = (t + 4, N) from if_pos rfl), gR_al, if_pos rfl]
  rfl
section NEW
variable {G : Gd} {M : Mi} {d c n : Nat} {K : Ah → Option Value → Prop} {pc : Nat} {ls : List (Option Value)} {st : List Value} {h : Ah}
theorem AW.new {ix ci N q : Nat} (hN : NRef M.1.cls ix ci N) (hq : 32 + nc h = q) (hd : decode M.2.1 pc = .ok (.new ix, 3)) (kk : AW G M d c n K (pc + 3) ls (.ref q :: st) (al h (0, ci))) : AW G M d (1 + c) (N + n) K pc ls st h := by
  intro p l e R s m args below meth cd Q H locs cells slots L F h1 h2 hH hS hL
  subst hq
  obtain ⟨C, T, ty, ⟨hc, hin, hty, hnm, hfl, hft⟩, w1, w2, w3⟩ := hN
  have hw := F.2.2.2.2.1
  have hKn := F.2.2.2.2.2.2.2.1.1 ci _ hc
  refine W.newcK F.1 F.2.1 F.2.2.2.1 (hw _ w1) (hw _ w2) (hw _ w3) rfl hd (by omega) (by omega) hKn.2.1 rfl fun H1 kC hkC e1 z1 o1 => ?_
  have hH1 : Hp G (al h (0, ci)) H1 := hH.new z1 o1 (by
    rw [ent_o (G := G) (show kd (al h (0, ci)) (32 + nc h) = (0, ci) from if_pos rfl)]
    refine ⟨_, hc, ?_⟩
    rw [← hH.1]
    refine (u_born ty hw hin hKn hkC e1 hty).to fun k hk => ?_
    rw [vp_V_fv G _ _ _ (by rw [hfl]; exact hk), gI_al, if_pos rfl, gR_al, if_pos rfl]
    rcases hft k hk with ⟨q1, q2 | q2⟩ | ⟨q1, q2⟩
    · rw [if_pos q1, q2]; rfl
    · rw [if_pos q1, q2]; rfl
    · rw [if_neg (by rw [q1]; decide)]
      generalize ty k = y at q2 ⊢
      cases y <;> first | (exact absurd q2 (by decide)) | rfl)
  have hk2 := kk p l e R s m args below meth cd Q H1 locs (cells + 1) (slots + N) L F (by omega) (by omega) hH1 (hS.new z1 o1) hL
  rw [List.map_cons, show cv G (.ref (32 + nc h)) = .ref H.size by rw [hH.1]; exact congrArg Value.ref (ad_new G _)] at hk2
  exact hk2
theorem AW.newPrim {t N q : Nat} {at_ : ArrayType} {z : Int32} (hat : newarray.typeOf at_ = aty t) (ht1 : 1 ≤ t) (ht3 : t ≤ 3) (hw : Cond.arrayClass (aty t) ∈ WS) (hz : ¬ z < 0) (hN : z.toNatClampNeg = N) (hb : N ≤ 1000000) (hq : 32 + nc h = q) (hd : decode M.2.1 pc = .ok (.newarray at_, 2)) (kk : AW G M d c n K (pc + 2) ls (.ref q :: st) (al h (t, N))) : AW G M d (1 + c) (N + n) K pc ls (.int z :: st) h := by
  intro p l e R s m args below meth cd Q H locs cells slots L F h1 h2 hH hS hL
  subst hq
  have hws := F.2.2.2.2.1
  have hb2 : N * componentBytes (newarray.typeOf at_) ≤ 536870912 := by
    rw [hat]
    rcases (show t = 1 ∨ t = 2 ∨ t = 3 by omega) with rfl | rfl | rfl
    · show N * 4 ≤ _; omega
    · show N * 8 ≤ _; omega
    · show N * 1 ≤ _; omega
  refine va_newaK F.1 F.2.1 (by rw [hat]; exact hws _ hw) rfl hd rfl hz hN hb2 (by omega) (by omega) rfl fun H1 cA e1 z1 o1 hAr hNm => ?_
  rw [hat] at e1 hNm
  have hca := ca_prim F.2.2.2.2.2.2.2.1 ht1 ht3 hNm
  subst hca
  have hH1 : Hp G (al h (t, N)) H1 := hH.new z1 o1 (by
    rw [← hH.1]
    rcases (show t = 1 ∨ t = 2 ∨ t = 3 by omega) with rfl | rfl | rfl
    · rw [at_al1]; exact e1
    · rw [at_al2]; exact e1
    · rw [at_al3]; exact e1)
  have hk2 := kk p l e R s m args below meth cd Q H1 locs (cells + 1) (slots + N) L F (by omega) (by omega) hH1 (hS.new z1 o1) hL
  rw [List.map_cons, show cv G (.ref (32 + nc h)) = .ref H.size by rw [hH.1]; exact congrArg Value.ref (ad_new G _)] at hk2
  exact hk2
theorem AW.newArr {t N q ix : Nat} {C : String} {z : Int32} (hC : aty (t + 4) = .object C) (ht : t ≤ 2) (hw : Cond.classLink M.1.cls ix C ∈ WS) (hz : ¬ z < 0) (hN : z.toNatClampNeg = N) (hb : N ≤ 1000000) (hq : 32 + nc h = q) (hd : decode M.2.1 pc = .ok (.anewarray ix, 3)) (kk : AW G M d c n K (pc + 3) ls (.ref q :: st) (al h (t + 4, N))) : AW G M d (1 + c) (N + n) K pc ls (.int z :: st) h := by
  intro p l e R s m args below meth cd Q H locs cells slots L F h1 h2 hH hS hL
  subst hq
  subst hN
  have hws := F.2.2.2.2.1
  have hE := F.2.2.2.2.2.2.2.2.1
  have hAO : va_AO C s := by
    obtain ⟨-, -, -, -, -, -, -, -, j1, j2, j3, -⟩ := hE
    rcases (show t = 0 ∨ t = 1 ∨ t = 2 by omega) with rfl | rfl | rfl
    · cases hC; exact j1
    · cases hC; exact j2
    · cases hC; exact j3
  refine W.anew F.1 F.2.1 F.2.2.2.1 (hws _ hw) (va_AO.use hAO) rfl hd rfl hz (by omega) (by omega) (by omega) fun cA kA comp f1 f2 f3 f4 => ?_
  have hca := ca_obj F.2.2.2.2.2.2.2.1 (t := t + 4) (by omega) (by omega) hC f1
  subst hca
  generalize hH1e : H.push ({ cls := G.2.2.1 (t + 4), slots := Array.replicate z.toNatClampNeg .null, vm := .none } : Cell) = H1
  have z1 : H1.size = H.size + 1 := by rw [← hH1e, Array.size_push]
  have e1 : H1[H.size]? = some (arrV (G.2.2.1 (t + 4)) z.toNatClampNeg (fun _ => .null)) := by rw [← hH1e, Array.getElem?_push_size, ← arrV_new]
  have o1 : ∀ q : Nat, q < H.size → H1[q]? = H[q]? := fun q hq => by rw [← hH1e, Array.getElem?_push, if_neg (Nat.ne_of_lt hq)]
  have hH1 : Hp G (al h (t + 4, z.toNatClampNeg)) H1 := hH.new z1 o1 (by
    rw [← hH.1, at_alq]
    show H1[H.size]? = some (vp_cell _ _)
    rw [vp_cell_q]
    exact e1)
  have hk2 := kk p l e R s m args below meth cd Q H1 locs (cells + 1) (slots + z.toNatClampNeg) L F (by omega) (by omega) hH1 (hS.new z1 o1) hL
  rw [List.map_cons, show cv G (.ref (32 + nc h)) = .ref H.size by rw [hH.1]; exact congrArg Value.ref (ad_new G _)] at hk2
  exact hk2
/-- k cells of one kind more -/
def alr (h : Ah) (k : Nat × Nat) : Nat → Ah
  | 0 => h
  | i + 1 => al (alr h k i) k
theorem nc_alr (h : Ah) (k : Nat × Nat) : ∀ i, nc (alr h k i) = nc h + i
  | 0 => rfl
  | i + 1 => by show nc (alr h k i) + 1 = _; rw [nc_alr h k i]; omega
/-- new int[N][Z]: the outer row at q, the inner ones behind it -/
def alm (h : Ah) (N Z : Nat) : Ah := rR (alr (al h (7, N)) (1, Z) N) (32 + nc h) (fun i => if i < N then some (32 + nc h + 1 + i) else none)
theorem ent_alr {G : Gd} (h : Ah) (k : Nat × Nat) (b : Nat) : ∀ i, b < 32 + nc h → ent G (alr h k i) b = ent G h b
  | 0, _ => rfl
  | i + 1, hb => by
    show ent G (al (alr h k i) k) b = _
    rw [ent_al G _ k b (by rw [nc_alr]; omega), ent_alr h k b i hb]
theorem kd_alr (h : Ah) (k : Nat × Nat) (b : Nat) : ∀ i, b < 32 + nc h → kd (alr h k i) b = kd h b
  | 0, _ => rfl
  | i + 1, hb => by
    show kd (al (alr h k i) k) b = _
    rw [kd_al, if_neg (by rw [nc_alr]; omega), kd_alr h k b i hb]
theorem AW.newMulti {N Z q ix : Nat} {z w : Int32} (hw : Cond.classLink M.1.cls ix "[[I" ∈ WS) (hi : Cond.arrayClass .int ∈ WS) (hz : ¬ z < 0) (hw0 : ¬ w < 0) (hN : z.toNatClampNeg = N) (hZ : w.toNatClampNeg = Z) (hb : N ≤ 1000) (hb2 : Z ≤ 1000) (hq : 32 + nc h = q) (hd : decode M.2.1 pc = .ok (.multianewarray ix 2, 4)) (kk : AW G M d c n K (pc + 4) ls (.ref q :: st) (alm h N Z)) : AW G M d (1 + N + c) (N + N * Z + n) K pc ls (.int w :: .int z :: st) h := by
  intro p l e R s m args below meth cd Q H locs cells slots L F h1 h2 hH hS hL
  subst hq
  subst hN
  subst hZ
  have hws := F.2.2.2.2.1
  have hE := F.2.2.2.2.2.2.2.2.1
  have hK := F.2.2.2.2.2.2.2.1
  have hAO : zAO s := by obtain ⟨-, -, -, -, -, -, -, -, -, -, -, k, -⟩ := hE; exact k
  have hAO2 : (Cond.arrayOver (.array .int)).before args s = true := hAO
  intro T hT Xs
  obtain ⟨vm₁, cA, comp, -, fA, fC, hO, -, X', step⟩ := Xs.multianewarray2F F.1 F.2.2.2.1 (ty := .int) (hws _ hw) hAO2 (hws _ hi) (g := F0 m pc L (.int w :: .int z :: st.map (cv G))) rfl (by rw [F.2.1]; exact hd) rfl hz hw0 (by omega) (by show _ * 4 ≤ _; omega) (by omega) rfl rfl (by omega) (by omega)
  have hcA := ca_int2 hK fA
  subst hcA
  have hcomp : comp = G.2.2.1 1 := ca_prim hK (t := 1) (by omega) (by omega) fC
  subst hcomp
  generalize hFe : Jvm.Free.Multi.fill (T.setVm vm₁) (G.2.2.1 7) (G.2.2.1 1) z.toNatClampNeg w.toNatClampNeg (defaultValue .int) z.toNatClampNeg = Fs at X' step
  have hTh : (T.setVm vm₁).heap = H := hT
  obtain ⟨f1, f2, -, -⟩ := Jvm.Free.Multi.fill_facts (T.setVm vm₁) (G.2.2.1 7) (G.2.2.1 1) z.toNatClampNeg w.toNatClampNeg (defaultValue .int) z.toNatClampNeg
  rw [hFe, hTh] at f1 f2
  have hold : ∀ x : Nat, x < H.size → Fs.heap[x]? = H[x]? := fun x hx => by
    have := Jvm.Free.Multi.fill_old (T.setVm vm₁) (G.2.2.1 7) (G.2.2.1 1) z.toNatClampNeg w.toNatClampNeg (defaultValue .int) (a := x) (by rw [hTh]; exact hx) z.toNatClampNeg
    rw [hFe, hTh] at this
    exact this
  have hrow : ∀ j : Nat, j < z.toNatClampNeg → Fs.heap[H.size + 1 + j]? = some (arrV (G.2.2.1 1) w.toNatClampNeg (fun _ => .int 0)) := fun j hj => by
    have := Jvm.Free.Multi.fill_inner (T.setVm vm₁) (G.2.2.1 7) (G.2.2.1 1) z.toNatClampNeg w.toNatClampNeg (defaultValue .int) z.toNatClampNeg j hj
    rw [hFe, hTh] at this
    rw [this]
    exact congrArg some (arrV_new _ _ _)
  rw [vr_outer] at f2
  have hH1 : Hp G (alm h z.toNatClampNeg w.toNatClampNeg) Fs.heap := by
    have hnc : nc (alm h z.toNatClampNeg w.toNatClampNeg) = nc h + 1 + z.toNatClampNeg := by
      show nc (alr (al h (7, z.toNatClampNeg)) (1, w.toNatClampNeg) z.toNatClampNeg) = _
      rw [nc_alr, nc_al]
    have hkd : ∀ b, kd (alm h z.toNatClampNeg w.toNatClampNeg) b = kd (alr (al h (7, z.toNatClampNeg)) (1, w.toNatClampNeg) z.toNatClampNeg) b := fun b => rfl
    have hkdN : ∀ i, ∀ b, (kd (alr (al h (7, z.toNatClampNeg)) (1, w.toNatClampNeg) i) b).1 ≠ 9 → 32 ≤ b ∧ b < 32 + nc h + 1 + i := by
      intro i
      induction i with
      | zero =>
        intro b hb
        show _ ∧ _
        rw [show alr (al h (7, z.toNatClampNeg)) (1, w.toNatClampNeg) 0 = al h (7, z.toNatClampNeg) from rfl, kd_al] at hb
        by_cases hbn : b = 32 + nc h
        · omega
        · rw [if_neg hbn] at hb
          have := hH.2.1 b hb
          omega
      | succ i ih =>
        intro b hb
        rw [show alr (al h (7, z.toNatClampNeg)) (1, w.toNatClampNeg) (i + 1) = al (alr (al h (7, z.toNatClampNeg)) (1, w.toNatClampNeg) i) (1, w.toNatClampNeg) from rfl, kd_al, nc_alr, nc_al] at hb
        by_cases hbn : b = 32 + (nc h + 1 + i)
        · omega
        · rw [if_neg hbn] at hb
          have := ih b hb
          omega
    refine ⟨by rw [f1, hnc, hH.1]; omega, fun b hb => ?_, fun k q hk => ?_⟩
    · rw [hkd] at hb
      have := hkdN _ b hb
      rw [hnc]
      omega
    · obtain ⟨hk1, rfl⟩ := wl_of hk
      rw [hnc] at hk1
      by_cases hk2 : k < nc h
      · have e : ent G (alm h z.toNatClampNeg w.toNatClampNeg) (32 + k) = ent G h (32 + k) := by
          show ent G (rR _ _ _) _ = _
          rw [ent_rR G _ _ _ _ (by omega), ent_alr _ _ _ _ (by rw [nc_al]; omega), ent_al G h _ _ (by omega)]
        rw [e]
        exact (hH.2.2 k _ (wl_at G h hk2)).kept (hold _ (by show G.1 + k < _; rw [hH.1]; omega))
      · by_cases hk3 : k = nc h
        · subst hk3
          have e : ent G (alm h z.toNatClampNeg w.toNatClampNeg) (32 + nc h) = .inl (G.2.2.1 7, z.toNatClampNeg, .inr (.inr (.inr (.inr (fun i => (if i < z.toNatClampNeg then some (32 + nc h + 1 + i) else none).map (ad G)))))) := by
            rw [ent_q (G := G) (t := 3) (N := z.toNatClampNeg) (by
              rw [hkd, kd_alr _ _ _ _ (by rw [nc_al]; omega), kd_al, if_pos rfl])]
            have : gR (alm h z.toNatClampNeg w.toNatClampNeg) (32 + nc h) = fun i => if i < z.toNatClampNeg then some (32 + nc h + 1 + i) else none := if_pos rfl
            rw [this]
          rw [e]
          show Fs.heap[G.1 + nc h]? = some (vp_cell _ _)
          rw [← hH.1, f2, vp_cell_q]
          congr 2
          funext j
          by_cases hj : j < z.toNatClampNeg
          · rw [if_pos hj, if_pos hj, Option.map_some, show 32 + nc h + 1 + j = 32 + (nc h + 1 + j) by omega, ad_new, hH.1]
            congr 2
            omega
          · rw [if_neg hj, if_neg hj]; rfl
        · obtain ⟨j, rfl⟩ : ∃ j, k = nc h + 1 + j := ⟨k - (nc h + 1), by omega⟩
          have hj : j < z.toNatClampNeg := by omega
          have hin : ∀ i, j < i → kd (alr (al h (7, z.toNatClampNeg)) (1, w.toNatClampNeg) i) (32 + (nc h + 1 + j)) = (1, w.toNatClampNeg) ∧ gI (alr (al h (7, z.toNatClampNeg)) (1, w.toNatClampNeg) i) (32 + (nc h + 1 + j)) = fun _ => 0 := by
            intro i
            induction i with
            | zero => intro q; omega
            | succ i ih =>
              intro q
              rw [show alr (al h (7, z.toNatClampNeg)) (1, w.toNatClampNeg) (i + 1) = al (alr (al h (7, z.toNatClampNeg)) (1, w.toNatClampNeg) i) (1, w.toNatClampNeg) from rfl, kd_al, gI_al, nc_alr, nc_al]
              by_cases hji : j = i
              · subst hji
                exact ⟨if_pos rfl, if_pos rfl⟩
              · rw [if_neg (by omega), if_neg (by omega)]
                exact ih (by omega)
          have e : ent G (alm h z.toNatClampNeg w.toNatClampNeg) (32 + (nc h + 1 + j)) = .inl (G.2.2.1 1, w.toNatClampNeg, .inl (fun _ => 0)) := by
            rw [show alm h z.toNatClampNeg w.toNatClampNeg = rR _ _ _ from rfl, ent_rR G _ _ _ _ (by omega), ent_1 (G := G) (hin _ hj).1, (hin _ hj).2]
          rw [e]
          show Fs.heap[G.1 + (nc h + 1 + j)]? = some (vp_cell _ _)
          rw [show G.1 + (nc h + 1 + j) = H.size + 1 + j by rw [hH.1]; omega, hrow j hj, vp_cell_i]
  have hS1 : va_S (zA G) s.heap Fs.heap locs ∧ True := ⟨⟨by rw [f1]; have := hS.1; omega, fun x g1 g2 => (hold x (Nat.lt_of_lt_of_le g1 hS.1)).trans (hS.2.1 x g1 g2), hS.2.2⟩, trivial⟩
  obtain ⟨t, a1, b1⟩ := kk p l e R s m args below meth cd Q Fs.heap locs (cells + 1 + z.toNatClampNeg) (slots + z.toNatClampNeg + z.toNatClampNeg * w.toNatClampNeg) L F (by omega) (by omega) hH1 hS1.1 hL Fs rfl (by
    have X2 := X'
    exact X2)
  refine ⟨t, step t ?_, b1⟩
  have e : T.heap.size = H.size := by rw [hT]
  rw [e]
  rw [List.map_cons, show cv G (.ref (32 + nc h)) = .ref H.size by rw [hH.1]; exact congrArg Value.ref (ad_new G _)] at a1
  exact a1
end NEW
