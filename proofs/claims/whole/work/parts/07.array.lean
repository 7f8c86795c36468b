/-! ===== arrays, new cells ===== -/
/-- the type of the places of an array of tag t -/
def aty (t : Nat) : FieldType := match t with
  | 2 => .long
  | 3 => .byte
  | 4 => .object RX6
  | 5 => .object RX2
  | 6 => .object RX7
  | 7 => .array .int
  | _ => .int
theorem tys_at {G : Gd} {t : Nat} (h1 : 1 ≤ t) (h7 : t ≤ 7) : (tysL G)[t]? = some (G.2.2.1 t, aty t) := by
  rcases (show t = 1 ∨ t = 2 ∨ t = 3 ∨ t = 4 ∨ t = 5 ∨ t = 6 ∨ t = 7 by omega) with rfl | rfl | rfl | rfl | rfl | rfl | rfl <;> rfl
theorem ent_sI1 {G : Gd} {h : Ah} {a N k : Nat} {x : Int32} (hk : kd h a = (1, N)) : ent G (sI h a k x) a = .inl (G.2.2.1 1, N, .inl (up (gI h a) k x)) := by
  rw [ent_1 (G := G) (show kd (sI h a k x) a = (1, N) from hk), gI_sI, if_pos rfl]
theorem ent_sI3 {G : Gd} {h : Ah} {a N k : Nat} {x : Int32} (hk : kd h a = (3, N)) : ent G (sI h a k x) a = .inl (G.2.2.1 3, N, .inl (up (gI h a) k x)) := by
  rw [ent_3 (G := G) (show kd (sI h a k x) a = (3, N) from hk), gI_sI, if_pos rfl]
theorem ent_sL2 {G : Gd} {h : Ah} {a N k : Nat} {x : Int64} (hk : kd h a = (2, N)) : ent G (sL h a k x) a = .inl (G.2.2.1 2, N, .inr (.inl (up (gL h a) k x))) := by
  rw [ent_2 (G := G) (show kd (sL h a k x) a = (2, N) from hk), gL_sL, if_pos rfl]
theorem ent_sRq {G : Gd} {h : Ah} {a t N k : Nat} {x : Option Nat} (hk : kd h a = (t + 4, N)) : ent G (sR h a k x) a = .inl (G.2.2.1 (t + 4), N, .inr (.inr (.inr (.inr (fun j => (up (gR h a) k x j).map (ad G)))))) := by
  rw [ent_q (G := G) (show kd (sR h a k x) a = (t + 4, N) from hk), gR_sR, if_pos rfl]
section ARR
variable {G : Gd} {M : Mi} {d c n : Nat} {K : Ah → Option Value → Prop} {pc : Nat} {ls : List (Option Value)} {st : List Value} {h : Ah}
theorem AW.iald {a N : Nat} {i x : Int32} (hk : kd h a = (1, N)) (hin : vp_in i N) (hv : gI h a i.toNatClampNeg = x) (hd : decode M.2.1 pc = .ok (.iaload, 1)) (kk : AW G M d c n K (pc + 1) ls (.int x :: st) h) : AW G M d c n K pc ls (.int i :: .ref a :: st) h := by
  intro p l e R s m args below meth cd Q H locs cells slots L F h1 h2 hH hS hL
  subst hv
  exact va_iald F.1 F.2.1 F.2.2.2.2.2.2.2.1 hH.2.2 (a - 32) 1 (hH.at (ent_1 hk) (kd_ne hk (by decide))) rfl hin hd (kk p l e R s m args below meth cd Q H locs cells slots L F h1 h2 hH hS hL)
theorem AW.bald {a N : Nat} {i x : Int32} (hk : kd h a = (3, N)) (hin : vp_in i N) (hv : gI h a i.toNatClampNeg = x) (hd : decode M.2.1 pc = .ok (.baload, 1)) (kk : AW G M d c n K (pc + 1) ls (.int x :: st) h) : AW G M d c n K pc ls (.int i :: .ref a :: st) h := by
  intro p l e R s m args below meth cd Q H locs cells slots L F h1 h2 hH hS hL
  subst hv
  exact va_bald F.1 F.2.1 F.2.2.2.2.2.2.2.1 hH.2.2 (a - 32) 3 (hH.at (ent_3 hk) (kd_ne hk (by decide))) rfl hin hd (kk p l e R s m args below meth cd Q H locs cells slots L F h1 h2 hH hS hL)
theorem AW.lald {a N : Nat} {i : Int32} {x : Int64} (hk : kd h a = (2, N)) (hin : vp_in i N) (hv : gL h a i.toNatClampNeg = x) (hd : decode M.2.1 pc = .ok (.laload, 1)) (kk : AW G M d c n K (pc + 1) ls (.long x :: st) h) : AW G M d c n K pc ls (.int i :: .ref a :: st) h := by
  intro p l e R s m args below meth cd Q H locs cells slots L F h1 h2 hH hS hL
  subst hv
  exact va_lald F.1 F.2.1 F.2.2.2.2.2.2.2.1 hH.2.2 (a - 32) 2 (hH.at (ent_2 hk) (kd_ne hk (by decide))) rfl hin hd (kk p l e R s m args below meth cd Q H locs cells slots L F h1 h2 hH hS hL)
theorem AW.aald {a t N : Nat} {i : Int32} {v : Value} (hk : kd h a = (t + 4, N)) (ht : t ≤ 3) (hin : vp_in i N) (hv : va_rf (gR h a i.toNatClampNeg) = v) (hd : decode M.2.1 pc = .ok (.aaload, 1)) (kk : AW G M d c n K (pc + 1) ls (v :: st) h) : AW G M d c n K pc ls (.int i :: .ref a :: st) h := by
  intro p l e R s m args below meth cd Q H locs cells slots L F h1 h2 hH hS hL
  subst hv
  have hlt : i.toNatClampNeg < N := Nat.not_le.mp fun q => hin (Or.inr q)
  have hat := hH.at (ent_q (G := G) hk) (kd_ne hk (by omega))
  have hT := tys_at (G := G) (t := t + 4) (by omega) (by omega)
  have hr : (aty (t + 4)).isReference = true := by
    rcases (show t = 0 ∨ t = 1 ∨ t = 2 ∨ t = 3 by omega) with rfl | rfl | rfl | rfl <;> rfl
  have hk2 := kk p l e R s m args below meth cd Q H locs cells slots L F h1 h2 hH hS hL
  refine W.aald (v := cr G (gR h a i.toNatClampNeg)) (ty := aty (t + 4)) F.1 F.2.1 (hH.2.2 (a - 32) _ hat) ((F.2.2.2.2.2.2.2.1.2 (t + 4) _ hT).1 N (fun j => va_rf ((gR h a j).map (ad G)))) hr (fun q => by cases q) (by show ¬ (i < 0 ∨ (arrV _ _ _).slots.size ≤ _); rw [arrV_size]; exact hin) (by show (arrV _ _ _).slots[_]? = _; rw [arrV_read _ _ hlt]; rfl) rfl rfl hd ?_
  rw [List.map_cons, cv_rf] at hk2
  exact hk2
theorem AW.iast {a N : Nat} {i x : Int32} (hk : kd h a = (1, N)) (hin : vp_in i N) (hd : decode M.2.1 pc = .ok (.iastore, 1)) (kk : AW G M d c n K (pc + 1) ls st (sI h a i.toNatClampNeg x)) : AW G M d c n K pc ls (.int x :: .int i :: .ref a :: st) h := by
  intro p l e R s m args below meth cd Q H locs cells slots L F h1 h2 hH hS hL
  have hne := kd_ne hk (by decide)
  have hat := hH.at (ent_1 (G := G) hk) hne
  have hD := wl_D G h
  refine W.iast F.1 F.2.1 (hH.2.2 (a - 32) _ hat) ((F.2.2.2.2.2.2.2.1.2 1 _ rfl).1 N (fun j => .int (gI h a j))) (fun q => by cases q) (by show ¬ (i < 0 ∨ (arrV _ _ _).slots.size ≤ _); rw [arrV_size]; exact hin) rfl rfl hd fun H1 e1 e2 e3 => ?_
  have hP1 : va_P G.2.1 cls ((wl G h).set (a - 32) (ad G a, .inl (G.2.2.1 1, N, .inl (up (gI h a) i.toNatClampNeg x)))) H1 := hH.2.2.set hD hat (by
    show H1[ad G a]? = some (vp_cell _ _)
    rw [e1, vp_cell_i, vp_cell_i, arrV_store]
    congr 2
    funext q
    by_cases hq : q = i.toNatClampNeg
    · subst hq; simp [updV, up]
    · simp [updV, up, hq]) e3
  exact kk p l e R s m args below meth cd Q H1 _ cells slots L F h1 h2 (hH.put (h' := sI h a i.toNatClampNeg x) hne hP1 e2 (ent_sI1 hk) rfl (fun _ => rfl) (fun b hb => ent_rI G h a b _ hb)) (hS.put e2 e3 (hD.2 (a - 32) _ hat)) hL
theorem AW.bast {a N : Nat} {i x : Int32} (hk : kd h a = (3, N)) (hin : vp_in i N) (hd : decode M.2.1 pc = .ok (.bastore, 1)) (kk : AW G M d c n K (pc + 1) ls st (sI h a i.toNatClampNeg x.toInt8.toInt32)) : AW G M d c n K pc ls (.int x :: .int i :: .ref a :: st) h := by
  intro p l e R s m args below meth cd Q H locs cells slots L F h1 h2 hH hS hL
  have hne := kd_ne hk (by decide)
  have hat := hH.at (ent_3 (G := G) hk) hne
  have hD := wl_D G h
  refine W.bast F.1 F.2.1 (hH.2.2 (a - 32) _ hat) ((F.2.2.2.2.2.2.2.1.2 3 _ rfl).1 N (fun j => .int (gI h a j))) (fun q => by cases q) (by show ¬ (i < 0 ∨ (arrV _ _ _).slots.size ≤ _); rw [arrV_size]; exact hin) rfl rfl hd fun H1 e1 e2 e3 => ?_
  have hP1 : va_P G.2.1 cls ((wl G h).set (a - 32) (ad G a, .inl (G.2.2.1 3, N, .inl (up (gI h a) i.toNatClampNeg x.toInt8.toInt32)))) H1 := hH.2.2.set hD hat (by
    show H1[ad G a]? = some (vp_cell _ _)
    rw [e1, vp_cell_i, vp_cell_i, arrV_store]
    congr 2
    funext q
    by_cases hq : q = i.toNatClampNeg
    · subst hq; simp [updV, up, narrow]
    · simp [updV, up, hq]) e3
  exact kk p l e R s m args below meth cd Q H1 _ cells slots L F h1 h2 (hH.put (h' := sI h a i.toNatClampNeg x.toInt8.toInt32) hne hP1 e2 (ent_sI3 hk) rfl (fun _ => rfl) (fun b hb => ent_rI G h a b _ hb)) (hS.put e2 e3 (hD.2 (a - 32) _ hat)) hL
theorem AW.last {a N : Nat} {i : Int32} {x : Int64} (hk : kd h a = (2, N)) (hin : vp_in i N) (hd : decode M.2.1 pc = .ok (.lastore, 1)) (kk : AW G M d c n K (pc + 1) ls st (sL h a i.toNatClampNeg x)) : AW G M d c n K pc ls (.long x :: .int i :: .ref a :: st) h := by
  intro p l e R s m args below meth cd Q H locs cells slots L F h1 h2 hH hS hL
  have hne := kd_ne hk (by decide)
  have hat := hH.at (ent_2 (G := G) hk) hne
  have hD := wl_D G h
  refine W.last F.1 F.2.1 (hH.2.2 (a - 32) _ hat) ((F.2.2.2.2.2.2.2.1.2 2 _ rfl).1 N (fun j => .long (gL h a j))) (fun q => by cases q) (by show ¬ (i < 0 ∨ (arrV _ _ _).slots.size ≤ _); rw [arrV_size]; exact hin) rfl rfl hd fun H1 e1 e2 e3 => ?_
  have hP1 : va_P G.2.1 cls ((wl G h).set (a - 32) (ad G a, .inl (G.2.2.1 2, N, .inr (.inl (up (gL h a) i.toNatClampNeg x))))) H1 := hH.2.2.set hD hat (by
    show H1[ad G a]? = some (vp_cell _ _)
    rw [e1, vp_cell_l, vp_cell_l, arrV_store]
    congr 2
    funext q
    by_cases hq : q = i.toNatClampNeg
    · subst hq; simp [updV, up]
    · simp [updV, up, hq]) e3
  exact kk p l e R s m args below meth cd Q H1 _ cells slots L F h1 h2 (hH.put (h' := sL h a i.toNatClampNeg x) hne hP1 e2 (ent_sL2 hk) rfl (fun _ => rfl) (fun b hb => ent_rL G h a b _ hb)) (hS.put e2 e3 (hD.2 (a - 32) _ hat)) hL
/-- a reference to an object into an array: its class is the places', or is under it -/
theorem AW.aast {a t N ci v : Nat} {i : Int32} (hk : kd h a = (t + 4, N)) (ht : t ≤ 2) (hin : vp_in i N) (hkv : kd h v = (0, ci)) (hci : (t = 0 ∧ (ci = 6 ∨ ci = 5 ∨ ci = 4 ∨ ci = 3 ∨ ci = 9 ∨ ci = 1)) ∨ (t = 1 ∧ ci = 2) ∨ (t = 2 ∧ ci = 7)) (hd : decode M.2.1 pc = .ok (.aastore, 1)) (kk : AW G M d c n K (pc + 1) ls st (sR h a i.toNatClampNeg (some v))) : AW G M d c n K pc ls (.ref v :: .int i :: .ref a :: st) h := by
  intro p l e R s m args below meth cd Q H locs cells slots L F h1 h2 hH hS hL
  have hne := kd_ne hk (by omega)
  have hat := hH.at (ent_q (G := G) hk) hne
  have hD := wl_D G h
  have hT := tys_at (G := G) (t := t + 4) (by omega) (by omega)
  have hKs := F.2.2.2.2.2.2.2.1
  have hnw := F.2.2.2.2.2.2.2.2.1.2.2.2.2.2.2.1
  have hvat := hH.at (ent_o (G := G) hkv) (kd_ne hkv (by decide))
  obtain ⟨E, hE, hany⟩ : ∃ E : String, aty (t + 4) = .object E ∧ va_Any E s H (ad G v) := by
    have self : ∀ (r : vw_C) (E : String), cls[ci]? = some r → r.1 = E → va_Any E s H (ad G v) := fun r E hc hE => va_rAny hKs hH.2.2 hvat hc fun comp c0 e1 e2 => by
      rw [hE] at e2
      cases e1.symm.trans e2
      exact va_assign (hE ▸ (hKs.1 ci r hc).2 : ClassAt s E (G.2.1.1 ci)) |> fun q => by
        have e3 : G.2.1.1 ci = comp := Option.some.inj ((hKs.1 ci r hc).2.1.symm.trans (hE ▸ e1))
        rw [← e3]; exact va_assign (hKs.1 ci r hc).2
    have under : ∀ (r : vw_C), cls[ci]? = some r → Cond.castable r.1 RX6 ∈ nwL → va_Any RX6 s H (ad G v) := fun r hc hw => va_rAny hKs hH.2.2 hvat hc fun comp c0 e1 e2 => by
      obtain ⟨c1, t1, f1, f2, f3⟩ := Cond.castable_spec (va_Nw.use (A := args) rfl (hnw _ hw))
      cases f1.symm.trans e2
      cases f2.symm.trans e1
      exact f3
    rcases hci with ⟨rfl, h0⟩ | ⟨rfl, rfl⟩ | ⟨rfl, rfl⟩
    · refine ⟨RX6, rfl, ?_⟩
      rcases h0 with rfl | rfl | rfl | rfl | rfl | rfl
      · exact self _ _ rfl rfl
      · exact under _ rfl (by simp [nwL])
      · exact under _ rfl (by simp [nwL])
      · exact under _ rfl (by simp [nwL])
      · exact under _ rfl (by simp [nwL])
      · exact under _ rfl (by simp [nwL])
    · exact ⟨RX2, rfl, self _ _ rfl rfl⟩
    · exact ⟨RX7, rfl, self _ _ rfl rfl⟩
  rw [hE] at hT
  have hlt : i.toNatClampNeg < N := Nat.not_le.mp fun q => hin (Or.inr q)
  have h0 : ¬ i < 0 := fun q => hin (Or.inl q)
  obtain ⟨cellV, g1, g3, ⟨kC, hkC⟩, hasg⟩ := hany
  obtain ⟨kA, comp, k1, k2, k3, -⟩ := (hKs.2 (t + 4) _ hT).2
  obtain ⟨kE, hkE, -⟩ := Vm.findClass_spec k3
  refine W.aast F.1 F.2.1 (hH.2.2 (a - 32) _ hat) (fun q h => by cases h) (fun h => by cases h) k1 k2 rfl hkE ⟨h0, by show _ < (arrV _ _ _).slots.size; rw [arrV_size]; exact hlt⟩ g1 (fun q h => by rw [h] at g3; cases g3) hkC (hasg _ k3) rfl rfl hd fun H1 e1 e2 e3 => ?_
  have hP1 : va_P G.2.1 cls ((wl G h).set (a - 32) (ad G a, .inl (G.2.2.1 (t + 4), N, .inr (.inr (.inr (.inr (fun j => (up (gR h a) i.toNatClampNeg (some v) j).map (ad G)))))))) H1 := hH.2.2.set hD hat (by
    show H1[ad G a]? = some (vp_cell _ _)
    rw [e1, vp_cell_q, vp_cell_q, arrV_store]
    congr 2
    funext q
    by_cases hq : q = i.toNatClampNeg
    · subst hq; simp [updV, up, va_rf]
    · simp [updV, up, hq]) e3
  exact kk p l e R s m args below meth cd Q H1 _ cells slots L F h1 h2 (hH.put (h' := sR h a i.toNatClampNeg (some v)) hne hP1 e2 (ent_sRq hk) rfl (fun _ => rfl) (fun b hb => ent_rR G h a b _ hb)) (hS.put e2 e3 (hD.2 (a - 32) _ hat)) hL
theorem AW.alen {a t N : Nat} {v : Int32} (hk : kd h a = (t, N)) (ht1 : 1 ≤ t) (ht7 : t ≤ 7) (hv : Int32.ofNat N = v) (hd : decode M.2.1 pc = .ok (.arraylength, 1)) (kk : AW G M d c n K (pc + 1) ls (.int v :: st) h) : AW G M d c n K pc ls (.ref a :: st) h := by
  intro p l e R s m args below meth cd Q H locs cells slots L F h1 h2 hH hS hL
  have hat := hH.get (a := a) (kd_ne hk (by omega))
  have hT := tys_at (G := G) ht1 ht7
  have hk2 := kk p l e R s m args below meth cd Q H locs cells slots L F h1 h2 hH hS hL
  obtain ⟨x, hx, hx1⟩ : ∃ x : vp_A, ent G h a = .inl (G.2.2.1 t, x) ∧ x.1 = N := by
    rcases (show t = 1 ∨ t = 2 ∨ t = 3 ∨ ∃ u, t = u + 4 by rcases t with _ | _ | _ | _ | t; omega; omega; omega; omega; exact Or.inr (Or.inr (Or.inr ⟨t, rfl⟩))) with rfl | rfl | rfl | ⟨u, rfl⟩
    · exact ⟨_, ent_1 hk, rfl⟩
    · exact ⟨_, ent_2 hk, rfl⟩
    · exact ⟨_, ent_3 hk, rfl⟩
    · exact ⟨_, ent_q hk, rfl⟩
  rw [hx] at hat
  exact va_alen F.1 F.2.1 F.2.2.2.2.2.2.2.1 hH.2.2 (a - 32) t hat hT (by rw [hx1]; exact hv) hd hk2
end ARR
