/-! ===== fields and arrays ===== -/
def sI (h : Ah) (a k : Nat) (x : Int32) : Ah := rI h a (up (gI h a) k x)
def sL (h : Ah) (a k : Nat) (x : Int64) : Ah := rL h a (up (gL h a) k x)
def sR (h : Ah) (a k : Nat) (x : Option Nat) : Ah := rR h a (up (gR h a) k x)
theorem gI_sI (h : Ah) (a k b : Nat) (x : Int32) : gI (sI h a k x) b = if b = a then up (gI h a) k x else gI h b := rfl
theorem gI_sL (h : Ah) (a k b : Nat) (x : Int64) : gI (sL h a k x) b = gI h b := rfl
theorem gI_sR (h : Ah) (a k b : Nat) (x : Option Nat) : gI (sR h a k x) b = gI h b := rfl
theorem gL_sI (h : Ah) (a k b : Nat) (x : Int32) : gL (sI h a k x) b = gL h b := rfl
theorem gL_sL (h : Ah) (a k b : Nat) (x : Int64) : gL (sL h a k x) b = if b = a then up (gL h a) k x else gL h b := rfl
theorem gL_sR (h : Ah) (a k b : Nat) (x : Option Nat) : gL (sR h a k x) b = gL h b := rfl
theorem gR_sI (h : Ah) (a k b : Nat) (x : Int32) : gR (sI h a k x) b = gR h b := rfl
theorem gR_sL (h : Ah) (a k b : Nat) (x : Int64) : gR (sL h a k x) b = gR h b := rfl
theorem gR_sR (h : Ah) (a k b : Nat) (x : Option Nat) : gR (sR h a k x) b = if b = a then up (gR h a) k x else gR h b := rfl
theorem kd_sI (h : Ah) (a k b : Nat) (x : Int32) : kd (sI h a k x) b = kd h b := rfl
theorem kd_sL (h : Ah) (a k b : Nat) (x : Int64) : kd (sL h a k x) b = kd h b := rfl
theorem kd_sR (h : Ah) (a k b : Nat) (x : Option Nat) : kd (sR h a k x) b = kd h b := rfl
theorem nc_sI (h : Ah) (a k : Nat) (x : Int32) : nc (sI h a k x) = nc h := rfl
theorem nc_sL (h : Ah) (a k : Nat) (x : Int64) : nc (sL h a k x) = nc h := rfl
theorem nc_sR (h : Ah) (a k : Nat) (x : Option Nat) : nc (sR h a k x) = nc h := rfl
/-- a class: its number among cls, its fields -/
def ClOk (ci : Nat) (C : String) (T : u_T) (N : Nat) (ty : Nat → FieldType) : Prop := cls[ci]? = some (C, T, N) ∧ (∀ w ∈ u_ws C T N, w ∈ WS) ∧ (∀ k, k < N → parseFieldDescriptor (T k).2.2.1 = some (ty k)) ∧ (∀ a, a < N → ∀ b, b < N → a ≠ b → (T a).2.1 ≠ (T b).2.1) ∧ (fty ci).length = N ∧
  (∀ k, k < N → ((fty ci).getD k 0 = 0 ∧ (ty k = .int ∨ ty k = .boolean)) ∨ ((fty ci).getD k 0 = 1 ∧ (ty k).isReference = true))
/-- what a field's entry names: field k of class ci, of kind t, of type y, final or not -/
def FRef (own : String) (ix ci k t : Nat) (y : FieldType) (fin : Bool) : Prop := ∃ (C : String) (T : u_T) (N : Nat) (ty : Nat → FieldType) (ref : String), ClOk ci C T N ty ∧ k < N ∧ (fty ci).getD k 0 = t ∧ ty k = y ∧ (T k).2.2.2 = fin ∧ Cond.fieldLink own ix ref (T k).2.1 (T k).2.2.1 ∈ WS ∧ (ref = (T k).1 ∨ Cond.sameField ref (T k).1 (T k).2.1 (T k).2.2.1 ∈ WS) ∧ (fin = true → (T k).1 = own ∨ True)
/-- the same of a final field, in its own class -/
def FOwn (own : String) (ci k : Nat) : Prop := ∃ r : vw_C, cls[ci]? = some r ∧ (r.2.1 k).1 = own
theorem fv_at (G : Gd) (h : Ah) (a : Nat) (ts : List Nat) {k : Nat} (hk : k < ts.length) : (fv G h a ts)[k]? = some (if ts.getD k 0 = 0 then Value.int (gI h a k) else cr G (gR h a k)) := by
  unfold fv
  rw [List.getElem?_map, List.getElem?_range hk]
  rfl
theorem fv_len (G : Gd) (h : Ah) (a : Nat) (ts : List Nat) : (fv G h a ts).length = ts.length := by simp [fv]
theorem fv_set {G : Gd} {h h' : Ah} {a : Nat} {ts : List Nat} {k : Nat} {v : Value} (hv : (if ts.getD k 0 = 0 then Value.int (gI h' a k) else cr G (gR h' a k)) = v) (ho : ∀ j, j ≠ k → (if ts.getD j 0 = 0 then Value.int (gI h' a j) else cr G (gR h' a j)) = (if ts.getD j 0 = 0 then Value.int (gI h a j) else cr G (gR h a j))) : (fv G h a ts).set k v = fv G h' a ts := by
  apply List.ext_getElem?
  intro j
  by_cases hj : j < ts.length
  · rw [fv_at G h' a ts hj]
    by_cases hjk : j = k
    · subst hjk
      rw [List.getElem?_set_self (by rw [fv_len]; exact hj), hv]
    · rw [List.getElem?_set_ne (Ne.symm hjk), fv_at G h a ts hj, ho j hjk]
  · rw [List.getElem?_eq_none (by rw [List.length_set, fv_len]; omega), List.getElem?_eq_none (by rw [fv_len]; omega)]
theorem ent_o {G : Gd} {h : Ah} {a ci : Nat} (hk : kd h a = (0, ci)) : ent G h a = .inr (ci, fv G h a (fty ci)) := by unfold ent; rw [hk]; rfl
theorem ent_1 {G : Gd} {h : Ah} {a N : Nat} (hk : kd h a = (1, N)) : ent G h a = .inl (G.2.2.1 1, N, .inl (gI h a)) := by unfold ent; rw [hk]; rfl
theorem ent_2 {G : Gd} {h : Ah} {a N : Nat} (hk : kd h a = (2, N)) : ent G h a = .inl (G.2.2.1 2, N, .inr (.inl (gL h a))) := by unfold ent; rw [hk]; rfl
theorem ent_3 {G : Gd} {h : Ah} {a N : Nat} (hk : kd h a = (3, N)) : ent G h a = .inl (G.2.2.1 3, N, .inl (gI h a)) := by unfold ent; rw [hk]; rfl
theorem ent_q {G : Gd} {h : Ah} {a t N : Nat} (hk : kd h a = (t + 4, N)) : ent G h a = .inl (G.2.2.1 (t + 4), N, .inr (.inr (.inr (.inr (fun j => (gR h a j).map (ad G)))))) := by unfold ent; rw [hk]; rfl
theorem Hp.at {G : Gd} {h : Ah} {H : Heap} (hH : Hp G h H) {a : Nat} {e : va_E} (he : ent G h a = e) (ha : (kd h a).1 ≠ 9) : (wl G h)[a - 32]? = some (ad G a, e) := by rw [← he]; exact hH.get ha
theorem kd_ne {h : Ah} {a t N : Nat} (hk : kd h a = (t, N)) (ht : t ≠ 9) : (kd h a).1 ≠ 9 := by rw [hk]; exact ht
section HEAP
variable {G : Gd} {M : Mi} {d c n : Nat} {K : Ah → Option Value → Prop} {pc : Nat} {ls : List (Option Value)} {st : List Value} {h : Ah}
theorem AW.getI {a ix ci k : Nat} {y : FieldType} {fin : Bool} {x : Int32} (hf : FRef M.1.cls ix ci k 0 y fin) (hk : kd h a = (0, ci)) (hv : gI h a k = x) (hd : decode M.2.1 pc = .ok (.getfield ix, 3)) (kk : AW G M d c n K (pc + 3) ls (.int x :: st) h) : AW G M d c n K pc ls (.ref a :: st) h := by
  intro p l e R s m args below meth cd Q H locs cells slots L F h1 h2 hH hS hL
  obtain ⟨C, T, N, ty, ref, ⟨hc, hin, hty, hnm, hfl, hft⟩, hkN, ht, hy, hfin, hl, hsm, -⟩ := hf
  refine va_get (D := G.2.1) (cl := cls) (tys := tysL G) (ws := wl G h) (v := .int x) F.1 F.2.1 F.2.2.2.2.1 hin F.2.2.2.1 F.2.2.2.2.2.2.2.1 hH.2.2 (a - 32) (hH.at (ent_o hk) (kd_ne hk (by decide))) hc k hkN (F.2.2.2.2.1 _ hl) (fun x0 h0 => ?_) ?_ hd (kk p l e R s m args below meth cd Q H locs cells slots L F h1 h2 hH hS hL)
  · rcases hsm with rfl | hsm
    · exact h0
    · exact u_same (F.2.2.2.2.1 _ hsm) x0 h0
  · rw [fv_at G h a _ (by rw [hfl]; exact hkN), if_pos ht, hv]
theorem AW.getR {a ix ci k : Nat} {y : FieldType} {fin : Bool} {v : Value} (hf : FRef M.1.cls ix ci k 1 y fin) (hk : kd h a = (0, ci)) (hv : va_rf (gR h a k) = v) (hd : decode M.2.1 pc = .ok (.getfield ix, 3)) (kk : AW G M d c n K (pc + 3) ls (v :: st) h) : AW G M d c n K pc ls (.ref a :: st) h := by
  intro p l e R s m args below meth cd Q H locs cells slots L F h1 h2 hH hS hL
  obtain ⟨C, T, N, ty, ref, ⟨hc, hin, hty, hnm, hfl, hft⟩, hkN, ht, hy, hfin, hl, hsm, -⟩ := hf
  refine va_get (D := G.2.1) (cl := cls) (tys := tysL G) (ws := wl G h) (v := cv G v) F.1 F.2.1 F.2.2.2.2.1 hin F.2.2.2.1 F.2.2.2.2.2.2.2.1 hH.2.2 (a - 32) (hH.at (ent_o hk) (kd_ne hk (by decide))) hc k hkN (F.2.2.2.2.1 _ hl) (fun x0 h0 => ?_) ?_ hd (kk p l e R s m args below meth cd Q H locs cells slots L F h1 h2 hH hS hL)
  · rcases hsm with rfl | hsm
    · exact h0
    · exact u_same (F.2.2.2.2.1 _ hsm) x0 h0
  · rw [fv_at G h a _ (by rw [hfl]; exact hkN), if_neg (by rw [ht]; decide), ← hv, cv_rf]
theorem AW.putAny {a ix ci k t : Nat} {y : FieldType} {fin : Bool} {v : Value} {h' : Ah} (hf : FRef M.1.cls ix ci k t y fin) (hk : kd h a = (0, ci)) (hfin : fin = false ∨ (M.1.name = "<init>" ∧ FOwn M.1.cls ci k)) (hn : narrow y (cv G v) = cv G v) (hfit : fits y (cv G v) = true)
    (hs : (fv G h a (fty ci)).set k (cv G v) = fv G h' a (fty ci)) (hkd : ∀ b, kd h' b = kd h b) (hnc : nc h' = nc h) (ho : ∀ b, b ≠ a → ent G h' b = ent G h b) (hd : decode M.2.1 pc = .ok (.putfield ix, 3)) (kk : AW G M d c n K (pc + 3) ls st h') : AW G M d c n K pc ls (v :: .ref a :: st) h := by
  intro p l e R s m args below meth cd Q H locs cells slots L F h1 h2 hH hS hL
  obtain ⟨C, T, N, ty, ref, ⟨hc, hin, hty, hnm, hfl, hft⟩, hkN, ht, hy, hfi, hl, hsm, -⟩ := hf
  have hne := kd_ne hk (by decide)
  have hsame : ∀ x, s.fieldFound? (T k).1 (T k).2.1 (T k).2.2.1 = some x → s.fieldFound? ref (T k).2.1 (T k).2.2.1 = some x := fun x0 h0 => by
    rcases hsm with rfl | hsm
    · exact h0
    · exact u_same (F.2.2.2.2.1 _ hsm) x0 h0
  have hat := hH.at (ent_o (G := G) hk) hne
  have hlen : k < (fv G h a (fty ci)).length := by rw [fv_len, hfl]; exact hkN
  have hend : ∀ (H1 : Heap) (locs1 : List Loc), va_P G.2.1 cls ((wl G h).set (a - 32) (ad G a, .inr (ci, (fv G h a (fty ci)).set k (cv G v)))) H1 → va_D (zA G) ((wl G h).set (a - 32) (ad G a, .inr (ci, (fv G h a (fty ci)).set k (cv G v)))) → va_S (zA G) s.heap H1 locs1 → H1.size = H.size → W p l e R s m args below meth cd H1 locs1 cells slots Q (F0 m (pc + 3) L (st.map (cv G))) := by
    intro H1 locs1 hP1 hD1 hS1 hz
    rw [hs] at hP1
    exact kk p l e R s m args below meth cd Q H1 locs1 cells slots L F h1 h2 (hH.put hne hP1 hz (ent_o (by rw [hkd]; exact hk)) hnc hkd ho) hS1 hL
  have hsz : ∀ (H1 : Heap) (locs1 : List Loc), True := fun _ _ => trivial
  have hap := va_apart (own := M.1.cls) (D := G.2.1) (cl := cls) (tys := tysL G) (s := s) (args := args) F.2.2.2.2.1 hin ty hty hnm F.2.2.2.2.2.2.2.1 hc
  obtain ⟨r, q0, cell, q1, q2, q3, q4⟩ := hH.2.2 (a - 32) _ hat
  have hr : r = (C, T, N) := Option.some.inj (q0.symm.trans hc)
  subst hr
  obtain ⟨hSl, hfc, kC, hkC, hkind⟩ := F.2.2.2.2.2.2.2.1.1 ci _ hc
  obtain ⟨cf, kf, fi, f, hi, hsl⟩ := hSl k hkN
  have hst := (u_facts hfc hkC (u_lays F.2.2.2.2.1 hin hkN) hi).1
  have hD := wl_D G h
  have hdesc : parseFieldDescriptor (T k).2.2.1 = some y := by rw [hty k hkN, hy]
  have fin2 : ∀ H1 : Heap, H1[ad G a]? = some (cell.setSlot (G.2.1.2 ci k) (cv G v)) → H1.size = H.size → (∀ q : Nat, q ≠ ad G a → H1[q]? = H[q]?) → W p l e R s m args below meth cd H1 (locs ++ [⟨ad G a, G.2.1.2 ci k⟩]) cells slots Q (F0 m (pc + 3) L (st.map (cv G))) := by
    intro H1 e1 e2 e3
    exact hend H1 _ (hH.2.2.set hD hat ⟨_, hc, t_OB.to (V := updV (vp_V (fv G h a (fty ci))) k (cv G v)) ⟨_, e1, q2, q3, t_set q4 hap hkN (cv G v)⟩ (fun j _ => vp_updV_set hlen (cv G v) j)⟩ e3) (hD.set hat) (hS.put e2 e3 (hD.2 (a - 32) _ hat)) e2
  have hlay := F.2.2.2.2.1 _ (hin _ (u_in_lay hkN))
  unfold u_lay at hlay
  cases hfv : (T k).2.2.2 with
  | false =>
    rw [if_neg (by rw [hfv]; decide)] at hlay
    have h6 := u_store hfc hkC hkind hlay hi hdesc hn hfit
    refine W.putK F.1 F.2.1 (f := f) ⟨F.2.2.2.1, F.2.2.2.2.1 _ hl, ⟨_, _, _, hsame _ hi⟩, hst⟩ (by rw [q2]; exact h6) q1 q3 (by rw [hsl]; exact k2_hasslot (q4 k hkN)) rfl rfl hd fun H' e1 e2 e3 => ?_
    rw [hsl] at e1 ⊢
    exact fin2 H' e1 e2 e3
  | true =>
    rw [if_pos hfv] at hlay
    have hf2 : M.1.name = "<init>" ∧ FOwn M.1.cls ci k := by
      rcases hfin with q | q
      · rw [← hfi, hfv] at q; cases q
      · exact q
    have hdecl : (T k).1 = M.1.cls := by
      obtain ⟨-, r, hr1, hr2⟩ := hf2
      cases hr1.symm.trans hc
      exact hr2
    have hcf : m.cls = cf := by
      obtain ⟨_, _, c', _, _, _, -, -, hf', -, -, -, hown2, -⟩ := Cond.laysFinal_spec hlay
      have e1 : c' = cf := by have := hi.symm.trans hf'; simp at this; exact this.1.symm
      rw [hdecl] at hown2
      rw [← e1]; exact Option.some.inj (F.2.2.2.1.symm.trans hown2)
    have h6 := u_fits hfc hkC hkind (Or.inr hlay) hi hdesc hn hfit
    refine W.putFinK F.1 F.2.1 F.2.2.2.1 (F.2.2.2.2.1 _ hl) (hsame _ hi) hst hcf (F.2.2.2.2.2.1.trans hf2.1) (by rw [q2]; exact h6) q1 q3 (by rw [hsl]; exact k2_hasslot (q4 k hkN)) rfl rfl hd fun H' e1 e2 e3 => ?_
    rw [hsl] at e1 ⊢
    exact fin2 H' e1 e2 e3
theorem fv_sI {G : Gd} {h : Ah} {a k : Nat} {x : Int32} {ts : List Nat} (ht : ts.getD k 0 = 0) : (fv G h a ts).set k (.int x) = fv G (sI h a k x) a ts := by
  refine fv_set (by rw [if_pos ht, gI_sI, if_pos rfl, up_self]) fun j hj => ?_
  rw [gI_sI, if_pos rfl, up_ne _ _ hj, gR_sI]
theorem fv_sR {G : Gd} {h : Ah} {a k : Nat} {o : Option Nat} {ts : List Nat} (ht : ts.getD k 0 = 1) : (fv G h a ts).set k (cr G o) = fv G (sR h a k o) a ts := by
  refine fv_set (by rw [if_neg (by rw [ht]; decide), gR_sR, if_pos rfl, up_self]) fun j hj => ?_
  rw [gR_sR, if_pos rfl, up_ne _ _ hj, gI_sR]
theorem AW.putI {a ix ci k : Nat} {fin : Bool} {x : Int32} (hf : FRef M.1.cls ix ci k 0 .int fin) (hk : kd h a = (0, ci)) (hfin : fin = false ∨ (M.1.name = "<init>" ∧ FOwn M.1.cls ci k)) (hd : decode M.2.1 pc = .ok (.putfield ix, 3)) (kk : AW G M d c n K (pc + 3) ls st (sI h a k x)) : AW G M d c n K pc ls (.int x :: .ref a :: st) h := by
  have ht : (fty ci).getD k 0 = 0 := by obtain ⟨_, _, _, _, _, -, -, q, -⟩ := id hf; exact q
  exact AW.putAny (v := .int x) hf hk hfin rfl rfl (fv_sI ht) (fun b => rfl) rfl (fun b hb => ent_rI G h a b _ hb) hd kk
theorem AW.putZ {a ix ci k : Nat} {fin : Bool} {x : Int32} (hf : FRef M.1.cls ix ci k 0 .boolean fin) (hk : kd h a = (0, ci)) (hx : x = 0 ∨ x = 1) (hfin : fin = false ∨ (M.1.name = "<init>" ∧ FOwn M.1.cls ci k)) (hd : decode M.2.1 pc = .ok (.putfield ix, 3)) (kk : AW G M d c n K (pc + 3) ls st (sI h a k x)) : AW G M d c n K pc ls (.int x :: .ref a :: st) h := by
  have ht : (fty ci).getD k 0 = 0 := by obtain ⟨_, _, _, _, _, -, -, q, -⟩ := id hf; exact q
  exact AW.putAny (v := .int x) hf hk hfin (by rcases hx with rfl | rfl <;> rfl) (by rcases hx with rfl | rfl <;> rfl) (fv_sI ht) (fun b => rfl) rfl (fun b hb => ent_rI G h a b _ hb) hd kk
theorem AW.putR {a ix ci k : Nat} {y : FieldType} {fin : Bool} {o : Option Nat} {v : Value} (hf : FRef M.1.cls ix ci k 1 y fin) (hk : kd h a = (0, ci)) (hv : va_rf o = v) (hfin : fin = false ∨ (M.1.name = "<init>" ∧ FOwn M.1.cls ci k)) (hd : decode M.2.1 pc = .ok (.putfield ix, 3)) (kk : AW G M d c n K (pc + 3) ls st (sR h a k o)) : AW G M d c n K pc ls (v :: .ref a :: st) h := by
  subst hv
  obtain ⟨C, T, N, ty, ref, hcl, hkN, ht, hy, -⟩ := id hf
  have hr : y.isReference = true := by
    rcases hcl.2.2.2.2.2 k hkN with ⟨q, -⟩ | ⟨-, q⟩
    · rw [ht] at q; cases q
    · rw [← hy]; exact q
  have hnf : narrow y (cr G o) = cr G o ∧ fits y (cr G o) = true := by
    cases y <;> first | (exact absurd hr (by decide)) | (cases o <;> exact ⟨rfl, rfl⟩)
  refine AW.putAny (v := va_rf o) (h' := sR h a k o) hf hk hfin (by rw [cv_rf]; exact hnf.1) (by rw [cv_rf]; exact hnf.2) (by rw [cv_rf]; exact fv_sR ht) (fun b => rfl) rfl (fun b hb => ent_rR G h a b _ hb) hd kk
end HEAP
