/-! ===== methods 16.made 1 ===== -/
def f_X0_init (N : Nat) (ρ : Rh) (I : Nat → Nat → Int32) (J : Nat → Nat → Int64) (p0 : Nat) (p1 : Nat) : Option ((Nat → Nat → Int32) × (Nat → Nat → Int64) × (Rh)) := (bnd (32 + ρ.2.2) fun a1 => (if (alρ ρ (1, 8)).2.1 p0 = (0, 0) then (if 115 ≤ p0 then (bnd (32 + (u2 (alρ ρ (1, 8)).1 p0 1 (some a1), (alρ ρ (1, 8)).2).2.2) fun a4 => (if (alρ (u2 (alρ ρ (1, 8)).1 p0 1 (some a1), (alρ ρ (1, 8)).2) (1, 8)).2.1 p0 = (0, 0) then (if 115 ≤ p0 then (bnd (32 + (u2 (alρ (u2 (alρ ρ (1, 8)).1 p0 1 (some a1), (alρ ρ (1, 8)).2) (1, 8)).1 p0 2 (some a4), (alρ (u2 (alρ ρ (1, 8)).1 p0 1 (some a1), (alρ ρ (1, 8)).2) (1, 8)).2).2.2) fun a7 => (if (alρ (u2 (alρ (u2 (alρ ρ (1, 8)).1 p0 1 (some a1), (alρ ρ (1, 8)).2) (1, 8)).1 p0 2 (some a4), (alρ (u2 (alρ ρ (1, 8)).1 p0 1 (some a1), (alρ ρ (1, 8)).2) (1, 8)).2) (1, 4)).2.1 p0 = (0, 0) then (if 115 ≤ p0 then (bnd (32 + (u2 (alρ (u2 (alρ (u2 (alρ ρ (1, 8)).1 p0 1 (some a1), (alρ ρ (1, 8)).2) (1, 8)).1 p0 2 (some a4), (alρ (u2 (alρ ρ (1, 8)).1 p0 1 (some a1), (alρ ρ (1, 8)).2) (1, 8)).2) (1, 4)).1 p0 3 (some a7), (alρ (u2 (alρ (u2 (alρ ρ (1, 8)).1 p0 1 (some a1), (alρ ρ (1, 8)).2) (1, 8)).1 p0 2 (some a4), (alρ (u2 (alρ ρ (1, 8)).1 p0 1 (some a1), (alρ ρ (1, 8)).2) (1, 8)).2) (1, 4)).2).2.2) fun a10 => (if (alρ (u2 (alρ (u2 (alρ (u2 (alρ ρ (1, 8)).1 p0 1 (some a1), (alρ ρ (1, 8)).2) (1, 8)).1 p0 2 (some a4), (alρ (u2 (alρ ρ (1, 8)).1 p0 1 (some a1), (alρ ρ (1, 8)).2) (1, 8)).2) (1, 4)).1 p0 3 (some a7), (alρ (u2 (alρ (u2 (alρ ρ (1, 8)).1 p0 1 (some a1), (alρ ρ (1, 8)).2) (1, 8)).1 p0 2 (some a4), (alρ (u2 (alρ ρ (1, 8)).1 p0 1 (some a1), (alρ ρ (1, 8)).2) (1, 8)).2) (1, 4)).2) (1, 12)).2.1 p0 = (0, 0) then (if 115 ≤ p0 then (bnd (32 + (u2 (alρ (u2 (alρ (u2 (alρ (u2 (alρ ρ (1, 8)).1 p0 1 (some a1), (alρ ρ (1, 8)).2) (1, 8)).1 p0 2 (some a4), (alρ (u2 (alρ ρ (1, 8)).1 p0 1 (some a1), (alρ ρ (1, 8)).2) (1, 8)).2) (1, 4)).1 p0 3 (some a7), (alρ (u2 (alρ (u2 (alρ ρ (1, 8)).1 p0 1 (some a1), (alρ ρ (1, 8)).2) (1, 8)).1 p0 2 (some a4), (alρ (u2 (alρ ρ (1, 8)).1 p0 1 (some a1), (alρ ρ (1, 8)).2) (1, 8)).2) (1, 4)).2) (1, 12)).1 p0 4 (some a10), (alρ (u2 (alρ (u2 (alρ (u2 (alρ ρ (1, 8)).1 p0 1 (some a1), (alρ ρ (1, 8)).2) (1, 8)).1 p0 2 (some a4), (alρ (u2 (alρ ρ (1, 8)).1 p0 1 (some a1), (alρ ρ (1, 8)).2) (1, 8)).2) (1, 4)).1 p0 3 (some a7), (alρ (u2 (alρ (u2 (alρ ρ (1, 8)).1 p0 1 (some a1), (alρ ρ (1, 8)).2) (1, 8)).1 p0 2 (some a4), (alρ (u2 (alρ ρ (1, 8)).1 p0 1 (some a1), (alρ ρ (1, 8)).2) (1, 8)).2) (1, 4)).2) (1, 12)).2).2.2) fun a13 => (if (alρ (u2 (alρ (u2 (alρ (u2 (alρ (u2 (alρ ρ (1, 8)).1 p0 1 (some a1), (alρ ρ (1, 8)).2) (1, 8)).1 p0 2 (some a4), (alρ (u2 (alρ ρ (1, 8)).1 p0 1 (some a1), (alρ ρ (1, 8)).2) (1, 8)).2) (1, 4)).1 p0 3 (some a7), (alρ (u2 (alρ (u2 (alρ ρ (1, 8)).1 p0 1 (some a1), (alρ ρ (1, 8)).2) (1, 8)).1 p0 2 (some a4), (alρ (u2 (alρ ρ (1, 8)).1 p0 1 (some a1), (alρ ρ (1, 8)).2) (1, 8)).2) (1, 4)).2) (1, 12)).1 p0 4 (some a10), (alρ (u2 (alρ (u2 (alρ (u2 (alρ ρ (1, 8)).1 p0 1 (some a1), (alρ ρ (1, 8)).2) (1, 8)).1 p0 2 (some a4), (alρ (u2 (alρ ρ (1, 8)).1 p0 1 (some a1), (alρ ρ (1, 8)).2) (1, 8)).2) (1, 4)).1 p0 3 (some a7), (alρ (u2 (alρ (u2 (alρ ρ (1, 8)).1 p0 1 (some a1), (alρ ρ (1, 8)).2) (1, 8)).1 p0 2 (some a4), (alρ (u2 (alρ ρ (1, 8)).1 p0 1 (some a1), (alρ ρ (1, 8)).2) (1, 8)).2) (1, 4)).2) (1, 12)).2) (1, 12)).2.1 p0 = (0, 0) then (if 115 ≤ p0 then (if 115 ≤ p0 then some ((up (up (u2 (u2 (u2 (u2 (up (up (up I a1 (fun _ => 0)) a4 (fun _ => 0)) a7 (fun _ => 0)) a7 0 (6 : Int32)) a7 1 (60 : Int32)) a7 2 (12 : Int32)) a7 3 (100 : Int32)) a10 (fun _ => 0)) a13 (fun _ => 0)), (up (up (up (up (up J a1 (fun _ => 0)) a4 (fun _ => 0)) a7 (fun _ => 0)) a10 (fun _ => 0)) a13 (fun _ => 0)), (u2 (u2 (alρ (u2 (alρ (u2 (alρ (u2 (alρ (u2 (alρ ρ (1, 8)).1 p0 1 (some a1), (alρ ρ (1, 8)).2) (1, 8)).1 p0 2 (some a4), (alρ (u2 (alρ ρ (1, 8)).1 p0 1 (some a1), (alρ ρ (1, 8)).2) (1, 8)).2) (1, 4)).1 p0 3 (some a7), (alρ (u2 (alρ (u2 (alρ ρ (1, 8)).1 p0 1 (some a1), (alρ ρ (1, 8)).2) (1, 8)).1 p0 2 (some a4), (alρ (u2 (alρ ρ (1, 8)).1 p0 1 (some a1), (alρ ρ (1, 8)).2) (1, 8)).2) (1, 4)).2) (1, 12)).1 p0 4 (some a10), (alρ (u2 (alρ (u2 (alρ (u2 (alρ ρ (1, 8)).1 p0 1 (some a1), (alρ ρ (1, 8)).2) (1, 8)).1 p0 2 (some a4), (alρ (u2 (alρ ρ (1, 8)).1 p0 1 (some a1), (alρ ρ (1, 8)).2) (1, 8)).2) (1, 4)).1 p0 3 (some a7), (alρ (u2 (alρ (u2 (alρ ρ (1, 8)).1 p0 1 (some a1), (alρ ρ (1, 8)).2) (1, 8)).1 p0 2 (some a4), (alρ (u2 (alρ ρ (1, 8)).1 p0 1 (some a1), (alρ ρ (1, 8)).2) (1, 8)).2) (1, 4)).2) (1, 12)).2) (1, 12)).1 p0 5 (some a13), (alρ (u2 (alρ (u2 (alρ (u2 (alρ (u2 (alρ ρ (1, 8)).1 p0 1 (some a1), (alρ ρ (1, 8)).2) (1, 8)).1 p0 2 (some a4), (alρ (u2 (alρ ρ (1, 8)).1 p0 1 (some a1), (alρ ρ (1, 8)).2) (1, 8)).2) (1, 4)).1 p0 3 (some a7), (alρ (u2 (alρ (u2 (alρ ρ (1, 8)).1 p0 1 (some a1), (alρ ρ (1, 8)).2) (1, 8)).1 p0 2 (some a4), (alρ (u2 (alρ ρ (1, 8)).1 p0 1 (some a1), (alρ ρ (1, 8)).2) (1, 8)).2) (1, 4)).2) (1, 12)).1 p0 4 (some a10), (alρ (u2 (alρ (u2 (alρ (u2 (alρ ρ (1, 8)).1 p0 1 (some a1), (alρ ρ (1, 8)).2) (1, 8)).1 p0 2 (some a4), (alρ (u2 (alρ ρ (1, 8)).1 p0 1 (some a1), (alρ ρ (1, 8)).2) (1, 8)).2) (1, 4)).1 p0 3 (some a7), (alρ (u2 (alρ (u2 (alρ ρ (1, 8)).1 p0 1 (some a1), (alρ ρ (1, 8)).2) (1, 8)).1 p0 2 (some a4), (alρ (u2 (alρ ρ (1, 8)).1 p0 1 (some a1), (alρ ρ (1, 8)).2) (1, 8)).2) (1, 4)).2) (1, 12)).2) (1, 12)).2).1 p0 6 (some p1), (u2 (alρ (u2 (alρ (u2 (alρ (u2 (alρ (u2 (alρ ρ (1, 8)).1 p0 1 (some a1), (alρ ρ (1, 8)).2) (1, 8)).1 p0 2 (some a4), (alρ (u2 (alρ ρ (1, 8)).1 p0 1 (some a1), (alρ ρ (1, 8)).2) (1, 8)).2) (1, 4)).1 p0 3 (some a7), (alρ (u2 (alρ (u2 (alρ ρ (1, 8)).1 p0 1 (some a1), (alρ ρ (1, 8)).2) (1, 8)).1 p0 2 (some a4), (alρ (u2 (alρ ρ (1, 8)).1 p0 1 (some a1), (alρ ρ (1, 8)).2) (1, 8)).2) (1, 4)).2) (1, 12)).1 p0 4 (some a10), (alρ (u2 (alρ (u2 (alρ (u2 (alρ ρ (1, 8)).1 p0 1 (some a1), (alρ ρ (1, 8)).2) (1, 8)).1 p0 2 (some a4), (alρ (u2 (alρ ρ (1, 8)).1 p0 1 (some a1), (alρ ρ (1, 8)).2) (1, 8)).2) (1, 4)).1 p0 3 (some a7), (alρ (u2 (alρ (u2 (alρ ρ (1, 8)).1 p0 1 (some a1), (alρ ρ (1, 8)).2) (1, 8)).1 p0 2 (some a4), (alρ (u2 (alρ ρ (1, 8)).1 p0 1 (some a1), (alρ ρ (1, 8)).2) (1, 8)).2) (1, 4)).2) (1, 12)).2) (1, 12)).1 p0 5 (some a13), (alρ (u2 (alρ (u2 (alρ (u2 (alρ (u2 (alρ ρ (1, 8)).1 p0 1 (some a1), (alρ ρ (1, 8)).2) (1, 8)).1 p0 2 (some a4), (alρ (u2 (alρ ρ (1, 8)).1 p0 1 (some a1), (alρ ρ (1, 8)).2) (1, 8)).2) (1, 4)).1 p0 3 (some a7), (alρ (u2 (alρ (u2 (alρ ρ (1, 8)).1 p0 1 (some a1), (alρ ρ (1, 8)).2) (1, 8)).1 p0 2 (some a4), (alρ (u2 (alρ ρ (1, 8)).1 p0 1 (some a1), (alρ ρ (1, 8)).2) (1, 8)).2) (1, 4)).2) (1, 12)).1 p0 4 (some a10), (alρ (u2 (alρ (u2 (alρ (u2 (alρ ρ (1, 8)).1 p0 1 (some a1), (alρ ρ (1, 8)).2) (1, 8)).1 p0 2 (some a4), (alρ (u2 (alρ ρ (1, 8)).1 p0 1 (some a1), (alρ ρ (1, 8)).2) (1, 8)).2) (1, 4)).1 p0 3 (some a7), (alρ (u2 (alρ (u2 (alρ ρ (1, 8)).1 p0 1 (some a1), (alρ ρ (1, 8)).2) (1, 8)).1 p0 2 (some a4), (alρ (u2 (alρ ρ (1, 8)).1 p0 1 (some a1), (alρ ρ (1, 8)).2) (1, 8)).2) (1, 4)).2) (1, 12)).2) (1, 12)).2).2)) else none) else none) else none)) else none) else none)) else none) else none)) else none) else none)) else none) else none))
theorem c_X0_init {G : Gd} {d N : Nat} {K : Ah → Option Value → Prop} {ρ : Rh} {I : Nat → Nat → Int32} {J : Nat → Nat → Int64} {p0 : Nat} {p1 : Nat} {o : (Nat → Nat → Int32) × (Nat → Nat → Int64) × (Rh)} (hs : Sh ρ) (hf : f_X0_init N ρ I J p0 p1 = some o) (hK : (Sh o.2.2 → K (o.1, o.2.1, o.2.2) none)) : AM G (d + 1) 5 44 mX0_init [.ref p0, .ref p1] (I, J, ρ) K := by
  unfold f_X0_init at hf
  refine AM.intro okX0_init.2.2.2.1 (Nat.le_of_ble_eq_true rfl) [some (.ref p0), some (.ref p1)] rfl ?_
  refine AW.aload_n dX0_init_0 rfl ?_
  refine AW.obj obX0_3 ob_i ob_c dX0_init_1 (Nat.le_of_ble_eq_true rfl) ?_
  refine AW.aload_n dX0_init_4 rfl ?_
  refine AW.bipush (v := (8 : Int32)) dX0_init_5 (by decide) ?_
  obtain ⟨a1, ga1, hf⟩ := bnd_one hf
  refine TW.newPrim (t := 1) (N := 8) (c := 4) (n := 36) rfl (by decide) (by decide) ac_int (by decide) (by decide) (by decide) ga1 dX0_init_7 ?_
  have hs := Sh.al hs (1, 8)
  show AW G mX0_init (d + 1) 4 36 K 9 [some (.ref p0), some (.ref p1)] [.ref a1, .ref p0] ((up I a1 (fun _ => 0)), (up J a1 (fun _ => 0)), (alρ ρ (1, 8)))
  obtain ⟨h2, hf⟩ := gd_split hf
  refine TW.putR (o := (some a1)) fX0_9_0 h2 rfl (Or.inr ⟨rfl, fX0_9_0o⟩) dX0_init_9 ?_
  obtain ⟨h3, hf⟩ := gd_split hf
  have hs := Sh.putH hs h3 1 (some a1)
  show AW G mX0_init (d + 1) 4 36 K 12 [some (.ref p0), some (.ref p1)] [] ((up I a1 (fun _ => 0)), (up J a1 (fun _ => 0)), (u2 (alρ ρ (1, 8)).1 p0 1 (some a1), (alρ ρ (1, 8)).2))
  refine AW.aload_n dX0_init_12 rfl ?_
  refine AW.bipush (v := (8 : Int32)) dX0_init_13 (by decide) ?_
  obtain ⟨a4, ga4, hf⟩ := bnd_one hf
  refine TW.newPrim (t := 1) (N := 8) (c := 3) (n := 28) rfl (by decide) (by decide) ac_int (by decide) (by decide) (by decide) ga4 dX0_init_15 ?_
  have hs := Sh.al hs (1, 8)
  show AW G mX0_init (d + 1) 3 28 K 17 [some (.ref p0), some (.ref p1)] [.ref a4, .ref p0] ((up (up I a1 (fun _ => 0)) a4 (fun _ => 0)), (up (up J a1 (fun _ => 0)) a4 (fun _ => 0)), (alρ (u2 (alρ ρ (1, 8)).1 p0 1 (some a1), (alρ ρ (1, 8)).2) (1, 8)))
  obtain ⟨h5, hf⟩ := gd_split hf
  refine TW.putR (o := (some a4)) fX0_15_0 h5 rfl (Or.inr ⟨rfl, fX0_15_0o⟩) dX0_init_17 ?_
  obtain ⟨h6, hf⟩ := gd_split hf
  have hs := Sh.putH hs h6 2 (some a4)
  show AW G mX0_init (d + 1) 3 28 K 20 [some (.ref p0), some (.ref p1)] [] ((up (up I a1 (fun _ => 0)) a4 (fun _ => 0)), (up (up J a1 (fun _ => 0)) a4 (fun _ => 0)), (u2 (alρ (u2 (alρ ρ (1, 8)).1 p0 1 (some a1), (alρ ρ (1, 8)).2) (1, 8)).1 p0 2 (some a4), (alρ (u2 (alρ ρ (1, 8)).1 p0 1 (some a1), (alρ ρ (1, 8)).2) (1, 8)).2))
  refine AW.aload_n dX0_init_20 rfl ?_
  refine AW.iconst (v := (4 : Int32)) dX0_init_21 (by decide) ?_
  obtain ⟨a7, ga7, hf⟩ := bnd_one hf
  refine TW.newPrim (t := 1) (N := 4) (c := 2) (n := 24) rfl (by decide) (by decide) ac_int (by decide) (by decide) (by decide) ga7 dX0_init_22 ?_
  have hs := Sh.al hs (1, 4)
  show AW G mX0_init (d + 1) 2 24 K 24 [some (.ref p0), some (.ref p1)] [.ref a7, .ref p0] ((up (up (up I a1 (fun _ => 0)) a4 (fun _ => 0)) a7 (fun _ => 0)), (up (up (up J a1 (fun _ => 0)) a4 (fun _ => 0)) a7 (fun _ => 0)), (alρ (u2 (alρ (u2 (alρ ρ (1, 8)).1 p0 1 (some a1), (alρ ρ (1, 8)).2) (1, 8)).1 p0 2 (some a4), (alρ (u2 (alρ ρ (1, 8)).1 p0 1 (some a1), (alρ ρ (1, 8)).2) (1, 8)).2) (1, 4)))
  refine AW.dup dX0_init_24 rfl ?_
  refine AW.iconst (v := (0 : Int32)) dX0_init_25 (by decide) ?_
  refine AW.bipush (v := (6 : Int32)) dX0_init_26 (by decide) ?_
  refine TW.iast (alk ga7) (show ¬ ((0 : Int32) < 0 ∨ 4 ≤ (0 : Int32).toNatClampNeg) by decide) dX0_init_28 ?_
  show AW G mX0_init (d + 1) 2 24 K 29 [some (.ref p0), some (.ref p1)] [.ref a7, .ref p0] ((u2 (up (up (up I a1 (fun _ => 0)) a4 (fun _ => 0)) a7 (fun _ => 0)) a7 0 (6 : Int32)), (up (up (up J a1 (fun _ => 0)) a4 (fun _ => 0)) a7 (fun _ => 0)), (alρ (u2 (alρ (u2 (alρ ρ (1, 8)).1 p0 1 (some a1), (alρ ρ (1, 8)).2) (1, 8)).1 p0 2 (some a4), (alρ (u2 (alρ ρ (1, 8)).1 p0 1 (some a1), (alρ ρ (1, 8)).2) (1, 8)).2) (1, 4)))
  refine AW.dup dX0_init_29 rfl ?_
  refine AW.iconst (v := (1 : Int32)) dX0_init_30 (by decide) ?_
  refine AW.bipush (v := (60 : Int32)) dX0_init_31 (by decide) ?_
  refine TW.iast (alk ga7) (show ¬ ((1 : Int32) < 0 ∨ 4 ≤ (1 : Int32).toNatClampNeg) by decide) dX0_init_33 ?_
  show AW G mX0_init (d + 1) 2 24 K 34 [some (.ref p0), some (.ref p1)] [.ref a7, .ref p0] ((u2 (u2 (up (up (up I a1 (fun _ => 0)) a4 (fun _ => 0)) a7 (fun _ => 0)) a7 0 (6 : Int32)) a7 1 (60 : Int32)), (up (up (up J a1 (fun _ => 0)) a4 (fun _ => 0)) a7 (fun _ => 0)), (alρ (u2 (alρ (u2 (alρ ρ (1, 8)).1 p0 1 (some a1), (alρ ρ (1, 8)).2) (1, 8)).1 p0 2 (some a4), (alρ (u2 (alρ ρ (1, 8)).1 p0 1 (some a1), (alρ ρ (1, 8)).2) (1, 8)).2) (1, 4)))
  refine AW.dup dX0_init_34 rfl ?_
  refine AW.iconst (v := (2 : Int32)) dX0_init_35 (by decide) ?_
  refine AW.bipush (v := (12 : Int32)) dX0_init_36 (by decide) ?_
  refine TW.iast (alk ga7) (show ¬ ((2 : Int32) < 0 ∨ 4 ≤ (2 : Int32).toNatClampNeg) by decide) dX0_init_38 ?_
  show AW G mX0_init (d + 1) 2 24 K 39 [some (.ref p0), some (.ref p1)] [.ref a7, .ref p0] ((u2 (u2 (u2 (up (up (up I a1 (fun _ => 0)) a4 (fun _ => 0)) a7 (fun _ => 0)) a7 0 (6 : Int32)) a7 1 (60 : Int32)) a7 2 (12 : Int32)), (up (up (up J a1 (fun _ => 0)) a4 (fun _ => 0)) a7 (fun _ => 0)), (alρ (u2 (alρ (u2 (alρ ρ (1, 8)).1 p0 1 (some a1), (alρ ρ (1, 8)).2) (1, 8)).1 p0 2 (some a4), (alρ (u2 (alρ ρ (1, 8)).1 p0 1 (some a1), (alρ ρ (1, 8)).2) (1, 8)).2) (1, 4)))
  refine AW.dup dX0_init_39 rfl ?_
  refine AW.iconst (v := (3 : Int32)) dX0_init_40 (by decide) ?_
  refine AW.bipush (v := (100 : Int32)) dX0_init_41 (by decide) ?_
  refine TW.iast (alk ga7) (show ¬ ((3 : Int32) < 0 ∨ 4 ≤ (3 : Int32).toNatClampNeg) by decide) dX0_init_43 ?_
  show AW G mX0_init (d + 1) 2 24 K 44 [some (.ref p0), some (.ref p1)] [.ref a7, .ref p0] ((u2 (u2 (u2 (u2 (up (up (up I a1 (fun _ => 0)) a4 (fun _ => 0)) a7 (fun _ => 0)) a7 0 (6 : Int32)) a7 1 (60 : Int32)) a7 2 (12 : Int32)) a7 3 (100 : Int32)), (up (up (up J a1 (fun _ => 0)) a4 (fun _ => 0)) a7 (fun _ => 0)), (alρ (u2 (alρ (u2 (alρ ρ (1, 8)).1 p0 1 (some a1), (alρ ρ (1, 8)).2) (1, 8)).1 p0 2 (some a4), (alρ (u2 (alρ ρ (1, 8)).1 p0 1 (some a1), (alρ ρ (1, 8)).2) (1, 8)).2) (1, 4)))
  obtain ⟨h8, hf⟩ := gd_split hf
  refine TW.putR (o := (some a7)) fX0_18_0 h8 rfl (Or.inr ⟨rfl, fX0_18_0o⟩) dX0_init_44 ?_
  obtain ⟨h9, hf⟩ := gd_split hf
  have hs := Sh.putH hs h9 3 (some a7)
  show AW G mX0_init (d + 1) 2 24 K 47 [some (.ref p0), some (.ref p1)] [] ((u2 (u2 (u2 (u2 (up (up (up I a1 (fun _ => 0)) a4 (fun _ => 0)) a7 (fun _ => 0)) a7 0 (6 : Int32)) a7 1 (60 : Int32)) a7 2 (12 : Int32)) a7 3 (100 : Int32)), (up (up (up J a1 (fun _ => 0)) a4 (fun _ => 0)) a7 (fun _ => 0)), (u2 (alρ (u2 (alρ (u2 (alρ ρ (1, 8)).1 p0 1 (some a1), (alρ ρ (1, 8)).2) (1, 8)).1 p0 2 (some a4), (alρ (u2 (alρ ρ (1, 8)).1 p0 1 (some a1), (alρ ρ (1, 8)).2) (1, 8)).2) (1, 4)).1 p0 3 (some a7), (alρ (u2 (alρ (u2 (alρ ρ (1, 8)).1 p0 1 (some a1), (alρ ρ (1, 8)).2) (1, 8)).1 p0 2 (some a4), (alρ (u2 (alρ ρ (1, 8)).1 p0 1 (some a1), (alρ ρ (1, 8)).2) (1, 8)).2) (1, 4)).2))
  refine AW.aload_n dX0_init_47 rfl ?_
  refine AW.bipush (v := (12 : Int32)) dX0_init_48 (by decide) ?_
  obtain ⟨a10, ga10, hf⟩ := bnd_one hf
  refine TW.newPrim (t := 1) (N := 12) (c := 1) (n := 12) rfl (by decide) (by decide) ac_int (by decide) (by decide) (by decide) ga10 dX0_init_50 ?_
  have hs := Sh.al hs (1, 12)
  show AW G mX0_init (d + 1) 1 12 K 52 [some (.ref p0), some (.ref p1)] [.ref a10, .ref p0] ((up (u2 (u2 (u2 (u2 (up (up (up I a1 (fun _ => 0)) a4 (fun _ => 0)) a7 (fun _ => 0)) a7 0 (6 : Int32)) a7 1 (60 : Int32)) a7 2 (12 : Int32)) a7 3 (100 : Int32)) a10 (fun _ => 0)), (up (up (up (up J a1 (fun _ => 0)) a4 (fun _ => 0)) a7 (fun _ => 0)) a10 (fun _ => 0)), (alρ (u2 (alρ (u2 (alρ (u2 (alρ ρ (1, 8)).1 p0 1 (some a1), (alρ ρ (1, 8)).2) (1, 8)).1 p0 2 (some a4), (alρ (u2 (alρ ρ (1, 8)).1 p0 1 (some a1), (alρ ρ (1, 8)).2) (1, 8)).2) (1, 4)).1 p0 3 (some a7), (alρ (u2 (alρ (u2 (alρ ρ (1, 8)).1 p0 1 (some a1), (alρ ρ (1, 8)).2) (1, 8)).1 p0 2 (some a4), (alρ (u2 (alρ ρ (1, 8)).1 p0 1 (some a1), (alρ ρ (1, 8)).2) (1, 8)).2) (1, 4)).2) (1, 12)))
  obtain ⟨h11, hf⟩ := gd_split hf
  refine TW.putR (o := (some a10)) fX0_21_0 h11 rfl (Or.inr ⟨rfl, fX0_21_0o⟩) dX0_init_52 ?_
  obtain ⟨h12, hf⟩ := gd_split hf
  have hs := Sh.putH hs h12 4 (some a10)
  show AW G mX0_init (d + 1) 1 12 K 55 [some (.ref p0), some (.ref p1)] [] ((up (u2 (u2 (u2 (u2 (up (up (up I a1 (fun _ => 0)) a4 (fun _ => 0)) a7 (fun _ => 0)) a7 0 (6 : Int32)) a7 1 (60 : Int32)) a7 2 (12 : Int32)) a7 3 (100 : Int32)) a10 (fun _ => 0)), (up (up (up (up J a1 (fun _ => 0)) a4 (fun _ => 0)) a7 (fun _ => 0)) a10 (fun _ => 0)), (u2 (alρ (u2 (alρ (u2 (alρ (u2 (alρ ρ (1, 8)).1 p0 1 (some a1), (alρ ρ (1, 8)).2) (1, 8)).1 p0 2 (some a4), (alρ (u2 (alρ ρ (1, 8)).1 p0 1 (some a1), (alρ ρ (1, 8)).2) (1, 8)).2) (1, 4)).1 p0 3 (some a7), (alρ (u2 (alρ (u2 (alρ ρ (1, 8)).1 p0 1 (some a1), (alρ ρ (1, 8)).2) (1, 8)).1 p0 2 (some a4), (alρ (u2 (alρ ρ (1, 8)).1 p0 1 (some a1), (alρ ρ (1, 8)).2) (1, 8)).2) (1, 4)).2) (1, 12)).1 p0 4 (some a10), (alρ (u2 (alρ (u2 (alρ (u2 (alρ ρ (1, 8)).1 p0 1 (some a1), (alρ ρ (1, 8)).2) (1, 8)).1 p0 2 (some a4), (alρ (u2 (alρ ρ (1, 8)).1 p0 1 (some a1), (alρ ρ (1, 8)).2) (1, 8)).2) (1, 4)).1 p0 3 (some a7), (alρ (u2 (alρ (u2 (alρ ρ (1, 8)).1 p0 1 (some a1), (alρ ρ (1, 8)).2) (1, 8)).1 p0 2 (some a4), (alρ (u2 (alρ ρ (1, 8)).1 p0 1 (some a1), (alρ ρ (1, 8)).2) (1, 8)).2) (1, 4)).2) (1, 12)).2))
  refine AW.aload_n dX0_init_55 rfl ?_
  refine AW.bipush (v := (12 : Int32)) dX0_init_56 (by decide) ?_
  obtain ⟨a13, ga13, hf⟩ := bnd_one hf
  refine TW.newPrim (t := 1) (N := 12) (c := 0) (n := 0) rfl (by decide) (by decide) ac_int (by decide) (by decide) (by decide) ga13 dX0_init_58 ?_
  have hs := Sh.al hs (1, 12)
  show AW G mX0_init (d + 1) 0 0 K 60 [some (.ref p0), some (.ref p1)] [.ref a13, .ref p0] ((up (up (u2 (u2 (u2 (u2 (up (up (up I a1 (fun _ => 0)) a4 (fun _ => 0)) a7 (fun _ => 0)) a7 0 (6 : Int32)) a7 1 (60 : Int32)) a7 2 (12 : Int32)) a7 3 (100 : Int32)) a10 (fun _ => 0)) a13 (fun _ => 0)), (up (up (up (up (up J a1 (fun _ => 0)) a4 (fun _ => 0)) a7 (fun _ => 0)) a10 (fun _ => 0)) a13 (fun _ => 0)), (alρ (u2 (alρ (u2 (alρ (u2 (alρ (u2 (alρ ρ (1, 8)).1 p0 1 (some a1), (alρ ρ (1, 8)).2) (1, 8)).1 p0 2 (some a4), (alρ (u2 (alρ ρ (1, 8)).1 p0 1 (some a1), (alρ ρ (1, 8)).2) (1, 8)).2) (1, 4)).1 p0 3 (some a7), (alρ (u2 (alρ (u2 (alρ ρ (1, 8)).1 p0 1 (some a1), (alρ ρ (1, 8)).2) (1, 8)).1 p0 2 (some a4), (alρ (u2 (alρ ρ (1, 8)).1 p0 1 (some a1), (alρ ρ (1, 8)).2) (1, 8)).2) (1, 4)).2) (1, 12)).1 p0 4 (some a10), (alρ (u2 (alρ (u2 (alρ (u2 (alρ ρ (1, 8)).1 p0 1 (some a1), (alρ ρ (1, 8)).2) (1, 8)).1 p0 2 (some a4), (alρ (u2 (alρ ρ (1, 8)).1 p0 1 (some a1), (alρ ρ (1, 8)).2) (1, 8)).2) (1, 4)).1 p0 3 (some a7), (alρ (u2 (alρ (u2 (alρ ρ (1, 8)).1 p0 1 (some a1), (alρ ρ (1, 8)).2) (1, 8)).1 p0 2 (some a4), (alρ (u2 (alρ ρ (1, 8)).1 p0 1 (some a1), (alρ ρ (1, 8)).2) (1, 8)).2) (1, 4)).2) (1, 12)).2) (1, 12)))
  obtain ⟨h14, hf⟩ := gd_split hf
  refine TW.putR (o := (some a13)) fX0_24_0 h14 rfl (Or.inr ⟨rfl, fX0_24_0o⟩) dX0_init_60 ?_
  obtain ⟨h15, hf⟩ := gd_split hf
  have hs := Sh.putH hs h15 5 (some a13)
  show AW G mX0_init (d + 1) 0 0 K 63 [some (.ref p0), some (.ref p1)] [] ((up (up (u2 (u2 (u2 (u2 (up (up (up I a1 (fun _ => 0)) a4 (fun _ => 0)) a7 (fun _ => 0)) a7 0 (6 : Int32)) a7 1 (60 : Int32)) a7 2 (12 : Int32)) a7 3 (100 : Int32)) a10 (fun _ => 0)) a13 (fun _ => 0)), (up (up (up (up (up J a1 (fun _ => 0)) a4 (fun _ => 0)) a7 (fun _ => 0)) a10 (fun _ => 0)) a13 (fun _ => 0)), (u2 (alρ (u2 (alρ (u2 (alρ (u2 (alρ (u2 (alρ ρ (1, 8)).1 p0 1 (some a1), (alρ ρ (1, 8)).2) (1, 8)).1 p0 2 (some a4), (alρ (u2 (alρ ρ (1, 8)).1 p0 1 (some a1), (alρ ρ (1, 8)).2) (1, 8)).2) (1, 4)).1 p0 3 (some a7), (alρ (u2 (alρ (u2 (alρ ρ (1, 8)).1 p0 1 (some a1), (alρ ρ (1, 8)).2) (1, 8)).1 p0 2 (some a4), (alρ (u2 (alρ ρ (1, 8)).1 p0 1 (some a1), (alρ ρ (1, 8)).2) (1, 8)).2) (1, 4)).2) (1, 12)).1 p0 4 (some a10), (alρ (u2 (alρ (u2 (alρ (u2 (alρ ρ (1, 8)).1 p0 1 (some a1), (alρ ρ (1, 8)).2) (1, 8)).1 p0 2 (some a4), (alρ (u2 (alρ ρ (1, 8)).1 p0 1 (some a1), (alρ ρ (1, 8)).2) (1, 8)).2) (1, 4)).1 p0 3 (some a7), (alρ (u2 (alρ (u2 (alρ ρ (1, 8)).1 p0 1 (some a1), (alρ ρ (1, 8)).2) (1, 8)).1 p0 2 (some a4), (alρ (u2 (alρ ρ (1, 8)).1 p0 1 (some a1), (alρ ρ (1, 8)).2) (1, 8)).2) (1, 4)).2) (1, 12)).2) (1, 12)).1 p0 5 (some a13), (alρ (u2 (alρ (u2 (alρ (u2 (alρ (u2 (alρ ρ (1, 8)).1 p0 1 (some a1), (alρ ρ (1, 8)).2) (1, 8)).1 p0 2 (some a4), (alρ (u2 (alρ ρ (1, 8)).1 p0 1 (some a1), (alρ ρ (1, 8)).2) (1, 8)).2) (1, 4)).1 p0 3 (some a7), (alρ (u2 (alρ (u2 (alρ ρ (1, 8)).1 p0 1 (some a1), (alρ ρ (1, 8)).2) (1, 8)).1 p0 2 (some a4), (alρ (u2 (alρ ρ (1, 8)).1 p0 1 (some a1), (alρ ρ (1, 8)).2) (1, 8)).2) (1, 4)).2) (1, 12)).1 p0 4 (some a10), (alρ (u2 (alρ (u2 (alρ (u2 (alρ ρ (1, 8)).1 p0 1 (some a1), (alρ ρ (1, 8)).2) (1, 8)).1 p0 2 (some a4), (alρ (u2 (alρ ρ (1, 8)).1 p0 1 (some a1), (alρ ρ (1, 8)).2) (1, 8)).2) (1, 4)).1 p0 3 (some a7), (alρ (u2 (alρ (u2 (alρ ρ (1, 8)).1 p0 1 (some a1), (alρ ρ (1, 8)).2) (1, 8)).1 p0 2 (some a4), (alρ (u2 (alρ ρ (1, 8)).1 p0 1 (some a1), (alρ ρ (1, 8)).2) (1, 8)).2) (1, 4)).2) (1, 12)).2) (1, 12)).2))
  refine AW.aload_n dX0_init_63 rfl ?_
  refine AW.aload_n dX0_init_64 rfl ?_
  refine TW.putR (o := (some p1)) fX0_27_0 h14 rfl (Or.inl rfl) dX0_init_65 ?_
  obtain ⟨h16, hf⟩ := gd_split hf
  have hs := Sh.putH hs h16 6 (some p1)
  show AW G mX0_init (d + 1) 0 0 K 68 [some (.ref p0), some (.ref p1)] [] ((up (up (u2 (u2 (u2 (u2 (up (up (up I a1 (fun _ => 0)) a4 (fun _ => 0)) a7 (fun _ => 0)) a7 0 (6 : Int32)) a7 1 (60 : Int32)) a7 2 (12 : Int32)) a7 3 (100 : Int32)) a10 (fun _ => 0)) a13 (fun _ => 0)), (up (up (up (up (up J a1 (fun _ => 0)) a4 (fun _ => 0)) a7 (fun _ => 0)) a10 (fun _ => 0)) a13 (fun _ => 0)), (u2 (u2 (alρ (u2 (alρ (u2 (alρ (u2 (alρ (u2 (alρ ρ (1, 8)).1 p0 1 (some a1), (alρ ρ (1, 8)).2) (1, 8)).1 p0 2 (some a4), (alρ (u2 (alρ ρ (1, 8)).1 p0 1 (some a1), (alρ ρ (1, 8)).2) (1, 8)).2) (1, 4)).1 p0 3 (some a7), (alρ (u2 (alρ (u2 (alρ ρ (1, 8)).1 p0 1 (some a1), (alρ ρ (1, 8)).2) (1, 8)).1 p0 2 (some a4), (alρ (u2 (alρ ρ (1, 8)).1 p0 1 (some a1), (alρ ρ (1, 8)).2) (1, 8)).2) (1, 4)).2) (1, 12)).1 p0 4 (some a10), (alρ (u2 (alρ (u2 (alρ (u2 (alρ ρ (1, 8)).1 p0 1 (some a1), (alρ ρ (1, 8)).2) (1, 8)).1 p0 2 (some a4), (alρ (u2 (alρ ρ (1, 8)).1 p0 1 (some a1), (alρ ρ (1, 8)).2) (1, 8)).2) (1, 4)).1 p0 3 (some a7), (alρ (u2 (alρ (u2 (alρ ρ (1, 8)).1 p0 1 (some a1), (alρ ρ (1, 8)).2) (1, 8)).1 p0 2 (some a4), (alρ (u2 (alρ ρ (1, 8)).1 p0 1 (some a1), (alρ ρ (1, 8)).2) (1, 8)).2) (1, 4)).2) (1, 12)).2) (1, 12)).1 p0 5 (some a13), (alρ (u2 (alρ (u2 (alρ (u2 (alρ (u2 (alρ ρ (1, 8)).1 p0 1 (some a1), (alρ ρ (1, 8)).2) (1, 8)).1 p0 2 (some a4), (alρ (u2 (alρ ρ (1, 8)).1 p0 1 (some a1), (alρ ρ (1, 8)).2) (1, 8)).2) (1, 4)).1 p0 3 (some a7), (alρ (u2 (alρ (u2 (alρ ρ (1, 8)).1 p0 1 (some a1), (alρ ρ (1, 8)).2) (1, 8)).1 p0 2 (some a4), (alρ (u2 (alρ ρ (1, 8)).1 p0 1 (some a1), (alρ ρ (1, 8)).2) (1, 8)).2) (1, 4)).2) (1, 12)).1 p0 4 (some a10), (alρ (u2 (alρ (u2 (alρ (u2 (alρ ρ (1, 8)).1 p0 1 (some a1), (alρ ρ (1, 8)).2) (1, 8)).1 p0 2 (some a4), (alρ (u2 (alρ ρ (1, 8)).1 p0 1 (some a1), (alρ ρ (1, 8)).2) (1, 8)).2) (1, 4)).1 p0 3 (some a7), (alρ (u2 (alρ (u2 (alρ ρ (1, 8)).1 p0 1 (some a1), (alρ ρ (1, 8)).2) (1, 8)).1 p0 2 (some a4), (alρ (u2 (alρ ρ (1, 8)).1 p0 1 (some a1), (alρ ρ (1, 8)).2) (1, 8)).2) (1, 4)).2) (1, 12)).2) (1, 12)).2).1 p0 6 (some p1), (u2 (alρ (u2 (alρ (u2 (alρ (u2 (alρ (u2 (alρ ρ (1, 8)).1 p0 1 (some a1), (alρ ρ (1, 8)).2) (1, 8)).1 p0 2 (some a4), (alρ (u2 (alρ ρ (1, 8)).1 p0 1 (some a1), (alρ ρ (1, 8)).2) (1, 8)).2) (1, 4)).1 p0 3 (some a7), (alρ (u2 (alρ (u2 (alρ ρ (1, 8)).1 p0 1 (some a1), (alρ ρ (1, 8)).2) (1, 8)).1 p0 2 (some a4), (alρ (u2 (alρ ρ (1, 8)).1 p0 1 (some a1), (alρ ρ (1, 8)).2) (1, 8)).2) (1, 4)).2) (1, 12)).1 p0 4 (some a10), (alρ (u2 (alρ (u2 (alρ (u2 (alρ ρ (1, 8)).1 p0 1 (some a1), (alρ ρ (1, 8)).2) (1, 8)).1 p0 2 (some a4), (alρ (u2 (alρ ρ (1, 8)).1 p0 1 (some a1), (alρ ρ (1, 8)).2) (1, 8)).2) (1, 4)).1 p0 3 (some a7), (alρ (u2 (alρ (u2 (alρ ρ (1, 8)).1 p0 1 (some a1), (alρ ρ (1, 8)).2) (1, 8)).1 p0 2 (some a4), (alρ (u2 (alρ ρ (1, 8)).1 p0 1 (some a1), (alρ ρ (1, 8)).2) (1, 8)).2) (1, 4)).2) (1, 12)).2) (1, 12)).1 p0 5 (some a13), (alρ (u2 (alρ (u2 (alρ (u2 (alρ (u2 (alρ ρ (1, 8)).1 p0 1 (some a1), (alρ ρ (1, 8)).2) (1, 8)).1 p0 2 (some a4), (alρ (u2 (alρ ρ (1, 8)).1 p0 1 (some a1), (alρ ρ (1, 8)).2) (1, 8)).2) (1, 4)).1 p0 3 (some a7), (alρ (u2 (alρ (u2 (alρ ρ (1, 8)).1 p0 1 (some a1), (alρ ρ (1, 8)).2) (1, 8)).1 p0 2 (some a4), (alρ (u2 (alρ ρ (1, 8)).1 p0 1 (some a1), (alρ ρ (1, 8)).2) (1, 8)).2) (1, 4)).2) (1, 12)).1 p0 4 (some a10), (alρ (u2 (alρ (u2 (alρ (u2 (alρ ρ (1, 8)).1 p0 1 (some a1), (alρ ρ (1, 8)).2) (1, 8)).1 p0 2 (some a4), (alρ (u2 (alρ ρ (1, 8)).1 p0 1 (some a1), (alρ ρ (1, 8)).2) (1, 8)).2) (1, 4)).1 p0 3 (some a7), (alρ (u2 (alρ (u2 (alρ ρ (1, 8)).1 p0 1 (some a1), (alρ ρ (1, 8)).2) (1, 8)).1 p0 2 (some a4), (alρ (u2 (alρ ρ (1, 8)).1 p0 1 (some a1), (alρ ρ (1, 8)).2) (1, 8)).2) (1, 4)).2) (1, 12)).2) (1, 12)).2).2))
  obtain rfl := Option.some.inj hf
  exact AW.vret (st := []) dX0_init_68 rfl ((show Sh (u2 (u2 (alρ (u2 (alρ (u2 (alρ (u2 (alρ (u2 (alρ ρ (1, 8)).1 p0 1 (some a1), (alρ ρ (1, 8)).2) (1, 8)).1 p0 2 (some a4), (alρ (u2 (alρ ρ (1, 8)).1 p0 1 (some a1), (alρ ρ (1, 8)).2) (1, 8)).2) (1, 4)).1 p0 3 (some a7), (alρ (u2 (alρ (u2 (alρ ρ (1, 8)).1 p0 1 (some a1), (alρ ρ (1, 8)).2) (1, 8)).1 p0 2 (some a4), (alρ (u2 (alρ ρ (1, 8)).1 p0 1 (some a1), (alρ ρ (1, 8)).2) (1, 8)).2) (1, 4)).2) (1, 12)).1 p0 4 (some a10), (alρ (u2 (alρ (u2 (alρ (u2 (alρ ρ (1, 8)).1 p0 1 (some a1), (alρ ρ (1, 8)).2) (1, 8)).1 p0 2 (some a4), (alρ (u2 (alρ ρ (1, 8)).1 p0 1 (some a1), (alρ ρ (1, 8)).2) (1, 8)).2) (1, 4)).1 p0 3 (some a7), (alρ (u2 (alρ (u2 (alρ ρ (1, 8)).1 p0 1 (some a1), (alρ ρ (1, 8)).2) (1, 8)).1 p0 2 (some a4), (alρ (u2 (alρ ρ (1, 8)).1 p0 1 (some a1), (alρ ρ (1, 8)).2) (1, 8)).2) (1, 4)).2) (1, 12)).2) (1, 12)).1 p0 5 (some a13), (alρ (u2 (alρ (u2 (alρ (u2 (alρ (u2 (alρ ρ (1, 8)).1 p0 1 (some a1), (alρ ρ (1, 8)).2) (1, 8)).1 p0 2 (some a4), (alρ (u2 (alρ ρ (1, 8)).1 p0 1 (some a1), (alρ ρ (1, 8)).2) (1, 8)).2) (1, 4)).1 p0 3 (some a7), (alρ (u2 (alρ (u2 (alρ ρ (1, 8)).1 p0 1 (some a1), (alρ ρ (1, 8)).2) (1, 8)).1 p0 2 (some a4), (alρ (u2 (alρ ρ (1, 8)).1 p0 1 (some a1), (alρ ρ (1, 8)).2) (1, 8)).2) (1, 4)).2) (1, 12)).1 p0 4 (some a10), (alρ (u2 (alρ (u2 (alρ (u2 (alρ ρ (1, 8)).1 p0 1 (some a1), (alρ ρ (1, 8)).2) (1, 8)).1 p0 2 (some a4), (alρ (u2 (alρ ρ (1, 8)).1 p0 1 (some a1), (alρ ρ (1, 8)).2) (1, 8)).2) (1, 4)).1 p0 3 (some a7), (alρ (u2 (alρ (u2 (alρ ρ (1, 8)).1 p0 1 (some a1), (alρ ρ (1, 8)).2) (1, 8)).1 p0 2 (some a4), (alρ (u2 (alρ ρ (1, 8)).1 p0 1 (some a1), (alρ ρ (1, 8)).2) (1, 8)).2) (1, 4)).2) (1, 12)).2) (1, 12)).2).1 p0 6 (some p1), (u2 (alρ (u2 (alρ (u2 (alρ (u2 (alρ (u2 (alρ ρ (1, 8)).1 p0 1 (some a1), (alρ ρ (1, 8)).2) (1, 8)).1 p0 2 (some a4), (alρ (u2 (alρ ρ (1, 8)).1 p0 1 (some a1), (alρ ρ (1, 8)).2) (1, 8)).2) (1, 4)).1 p0 3 (some a7), (alρ (u2 (alρ (u2 (alρ ρ (1, 8)).1 p0 1 (some a1), (alρ ρ (1, 8)).2) (1, 8)).1 p0 2 (some a4), (alρ (u2 (alρ ρ (1, 8)).1 p0 1 (some a1), (alρ ρ (1, 8)).2) (1, 8)).2) (1, 4)).2) (1, 12)).1 p0 4 (some a10), (alρ (u2 (alρ (u2 (alρ (u2 (alρ ρ (1, 8)).1 p0 1 (some a1), (alρ ρ (1, 8)).2) (1, 8)).1 p0 2 (some a4), (alρ (u2 (alρ ρ (1, 8)).1 p0 1 (some a1), (alρ ρ (1, 8)).2) (1, 8)).2) (1, 4)).1 p0 3 (some a7), (alρ (u2 (alρ (u2 (alρ ρ (1, 8)).1 p0 1 (some a1), (alρ ρ (1, 8)).2) (1, 8)).1 p0 2 (some a4), (alρ (u2 (alρ ρ (1, 8)).1 p0 1 (some a1), (alρ ρ (1, 8)).2) (1, 8)).2) (1, 4)).2) (1, 12)).2) (1, 12)).1 p0 5 (some a13), (alρ (u2 (alρ (u2 (alρ (u2 (alρ (u2 (alρ ρ (1, 8)).1 p0 1 (some a1), (alρ ρ (1, 8)).2) (1, 8)).1 p0 2 (some a4), (alρ (u2 (alρ ρ (1, 8)).1 p0 1 (some a1), (alρ ρ (1, 8)).2) (1, 8)).2) (1, 4)).1 p0 3 (some a7), (alρ (u2 (alρ (u2 (alρ ρ (1, 8)).1 p0 1 (some a1), (alρ ρ (1, 8)).2) (1, 8)).1 p0 2 (some a4), (alρ (u2 (alρ ρ (1, 8)).1 p0 1 (some a1), (alρ ρ (1, 8)).2) (1, 8)).2) (1, 4)).2) (1, 12)).1 p0 4 (some a10), (alρ (u2 (alρ (u2 (alρ (u2 (alρ ρ (1, 8)).1 p0 1 (some a1), (alρ ρ (1, 8)).2) (1, 8)).1 p0 2 (some a4), (alρ (u2 (alρ ρ (1, 8)).1 p0 1 (some a1), (alρ ρ (1, 8)).2) (1, 8)).2) (1, 4)).1 p0 3 (some a7), (alρ (u2 (alρ (u2 (alρ ρ (1, 8)).1 p0 1 (some a1), (alρ ρ (1, 8)).2) (1, 8)).1 p0 2 (some a4), (alρ (u2 (alρ ρ (1, 8)).1 p0 1 (some a1), (alρ ρ (1, 8)).2) (1, 8)).2) (1, 4)).2) (1, 12)).2) (1, 12)).2).2) → _ from hK) hs)
def f_X6_init_6 (N : Nat) (ρ : Rh) (I : Nat → Nat → Int32) (J : Nat → Nat → Int64) (p0 : Nat) (p1 : Int32) (p2 : Int32) : Option ((Nat → Nat → Int32)) := (if ρ.2.1 p0 = (0, 6) then some (u2 (u2 I p0 0 p1) p0 1 p2) else none)
theorem c_X6_init_6 {G : Gd} {d N : Nat} {K : Ah → Option Value → Prop} {ρ : Rh} {I : Nat → Nat → Int32} {J : Nat → Nat → Int64} {p0 : Nat} {p1 : Int32} {p2 : Int32} {o : (Nat → Nat → Int32)} (hs : Sh ρ) (hf : f_X6_init_6 N ρ I J p0 p1 p2 = some o) (hK : K (o, J, ρ) none) : AM G (d + 1) 0 0 mX6_init [.ref p0, .int p1, .int p2] (I, J, ρ) K := by
  unfold f_X6_init_6 at hf
  refine AM.intro okX6_init.2.2.2.1 (Nat.le_of_ble_eq_true rfl) [some (.ref p0), some (.int p1), some (.int p2)] rfl ?_
  refine AW.aload_n dX6_init_0 rfl ?_
  refine AW.obj obX6_1 ob_i ob_c dX6_init_1 (Nat.le_of_ble_eq_true rfl) ?_
  refine AW.aload_n dX6_init_4 rfl ?_
  refine AW.iload_n dX6_init_5 rfl ?_
  obtain ⟨h1, hf⟩ := gd_split hf
  refine TW.putI fX6_7_6 h1 (Or.inr ⟨rfl, fX6_7_6o⟩) dX6_init_6 ?_
  show AW G mX6_init (d + 1) 0 0 K 9 [some (.ref p0), some (.int p1), some (.int p2)] [] ((u2 I p0 0 p1), J, ρ)
  refine AW.aload_n dX6_init_9 rfl ?_
  refine AW.iload_n dX6_init_10 rfl ?_
  refine TW.putI fX6_13_6 h1 (Or.inr ⟨rfl, fX6_13_6o⟩) dX6_init_11 ?_
  show AW G mX6_init (d + 1) 0 0 K 14 [some (.ref p0), some (.int p1), some (.int p2)] [] ((u2 (u2 I p0 0 p1) p0 1 p2), J, ρ)
  obtain rfl := Option.some.inj hf
  exact AW.vret (st := []) dX6_init_14 rfl hK
def f_X6_init_5 (N : Nat) (ρ : Rh) (I : Nat → Nat → Int32) (J : Nat → Nat → Int64) (p0 : Nat) (p1 : Int32) (p2 : Int32) : Option ((Nat → Nat → Int32)) := (if ρ.2.1 p0 = (0, 5) then some (u2 (u2 I p0 0 p1) p0 1 p2) else none)
theorem c_X6_init_5 {G : Gd} {d N : Nat} {K : Ah → Option Value → Prop} {ρ : Rh} {I : Nat → Nat → Int32} {J : Nat → Nat → Int64} {p0 : Nat} {p1 : Int32} {p2 : Int32} {o : (Nat → Nat → Int32)} (hs : Sh ρ) (hf : f_X6_init_5 N ρ I J p0 p1 p2 = some o) (hK : K (o, J, ρ) none) : AM G (d + 1) 0 0 mX6_init [.ref p0, .int p1, .int p2] (I, J, ρ) K := by
  unfold f_X6_init_5 at hf
  refine AM.intro okX6_init.2.2.2.1 (Nat.le_of_ble_eq_true rfl) [some (.ref p0), some (.int p1), some (.int p2)] rfl ?_
  refine AW.aload_n dX6_init_0 rfl ?_
  refine AW.obj obX6_1 ob_i ob_c dX6_init_1 (Nat.le_of_ble_eq_true rfl) ?_
  refine AW.aload_n dX6_init_4 rfl ?_
  refine AW.iload_n dX6_init_5 rfl ?_
  obtain ⟨h1, hf⟩ := gd_split hf
  refine TW.putI fX6_7_5 h1 (Or.inr ⟨rfl, fX6_7_5o⟩) dX6_init_6 ?_
  show AW G mX6_init (d + 1) 0 0 K 9 [some (.ref p0), some (.int p1), some (.int p2)] [] ((u2 I p0 0 p1), J, ρ)
  refine AW.aload_n dX6_init_9 rfl ?_
  refine AW.iload_n dX6_init_10 rfl ?_
  refine TW.putI fX6_13_5 h1 (Or.inr ⟨rfl, fX6_13_5o⟩) dX6_init_11 ?_
  show AW G mX6_init (d + 1) 0 0 K 14 [some (.ref p0), some (.int p1), some (.int p2)] [] ((u2 (u2 I p0 0 p1) p0 1 p2), J, ρ)
  obtain rfl := Option.some.inj hf
  exact AW.vret (st := []) dX6_init_14 rfl hK
def f_X6_init_4 (N : Nat) (ρ : Rh) (I : Nat → Nat → Int32) (J : Nat → Nat → Int64) (p0 : Nat) (p1 : Int32) (p2 : Int32) : Option ((Nat → Nat → Int32)) := (if ρ.2.1 p0 = (0, 4) then some (u2 (u2 I p0 0 p1) p0 1 p2) else none)
theorem c_X6_init_4 {G : Gd} {d N : Nat} {K : Ah → Option Value → Prop} {ρ : Rh} {I : Nat → Nat → Int32} {J : Nat → Nat → Int64} {p0 : Nat} {p1 : Int32} {p2 : Int32} {o : (Nat → Nat → Int32)} (hs : Sh ρ) (hf : f_X6_init_4 N ρ I J p0 p1 p2 = some o) (hK : K (o, J, ρ) none) : AM G (d + 1) 0 0 mX6_init [.ref p0, .int p1, .int p2] (I, J, ρ) K := by
  unfold f_X6_init_4 at hf
  refine AM.intro okX6_init.2.2.2.1 (Nat.le_of_ble_eq_true rfl) [some (.ref p0), some (.int p1), some (.int p2)] rfl ?_
  refine AW.aload_n dX6_init_0 rfl ?_
  refine AW.obj obX6_1 ob_i ob_c dX6_init_1 (Nat.le_of_ble_eq_true rfl) ?_
  refine AW.aload_n dX6_init_4 rfl ?_
  refine AW.iload_n dX6_init_5 rfl ?_
  obtain ⟨h1, hf⟩ := gd_split hf
  refine TW.putI fX6_7_4 h1 (Or.inr ⟨rfl, fX6_7_4o⟩) dX6_init_6 ?_
  show AW G mX6_init (d + 1) 0 0 K 9 [some (.ref p0), some (.int p1), some (.int p2)] [] ((u2 I p0 0 p1), J, ρ)
  refine AW.aload_n dX6_init_9 rfl ?_
  refine AW.iload_n dX6_init_10 rfl ?_
  refine TW.putI fX6_13_4 h1 (Or.inr ⟨rfl, fX6_13_4o⟩) dX6_init_11 ?_
  show AW G mX6_init (d + 1) 0 0 K 14 [some (.ref p0), some (.int p1), some (.int p2)] [] ((u2 (u2 I p0 0 p1) p0 1 p2), J, ρ)
  obtain rfl := Option.some.inj hf
  exact AW.vret (st := []) dX6_init_14 rfl hK
def f_X6_init_3 (N : Nat) (ρ : Rh) (I : Nat → Nat → Int32) (J : Nat → Nat → Int64) (p0 : Nat) (p1 : Int32) (p2 : Int32) : Option ((Nat → Nat → Int32)) := (if ρ.2.1 p0 = (0, 3) then some (u2 (u2 I p0 0 p1) p0 1 p2) else none)
theorem c_X6_init_3 {G : Gd} {d N : Nat} {K : Ah → Option Value → Prop} {ρ : Rh} {I : Nat → Nat → Int32} {J : Nat → Nat → Int64} {p0 : Nat} {p1 : Int32} {p2 : Int32} {o : (Nat → Nat → Int32)} (hs : Sh ρ) (hf : f_X6_init_3 N ρ I J p0 p1 p2 = some o) (hK : K (o, J, ρ) none) : AM G (d + 1) 0 0 mX6_init [.ref p0, .int p1, .int p2] (I, J, ρ) K := by
  unfold f_X6_init_3 at hf
  refine AM.intro okX6_init.2.2.2.1 (Nat.le_of_ble_eq_true rfl) [some (.ref p0), some (.int p1), some (.int p2)] rfl ?_
  refine AW.aload_n dX6_init_0 rfl ?_
  refine AW.obj obX6_1 ob_i ob_c dX6_init_1 (Nat.le_of_ble_eq_true rfl) ?_
  refine AW.aload_n dX6_init_4 rfl ?_
  refine AW.iload_n dX6_init_5 rfl ?_
  obtain ⟨h1, hf⟩ := gd_split hf
  refine TW.putI fX6_7_3 h1 (Or.inr ⟨rfl, fX6_7_3o⟩) dX6_init_6 ?_
  show AW G mX6_init (d + 1) 0 0 K 9 [some (.ref p0), some (.int p1), some (.int p2)] [] ((u2 I p0 0 p1), J, ρ)
  refine AW.aload_n dX6_init_9 rfl ?_
  refine AW.iload_n dX6_init_10 rfl ?_
  refine TW.putI fX6_13_3 h1 (Or.inr ⟨rfl, fX6_13_3o⟩) dX6_init_11 ?_
  show AW G mX6_init (d + 1) 0 0 K 14 [some (.ref p0), some (.int p1), some (.int p2)] [] ((u2 (u2 I p0 0 p1) p0 1 p2), J, ρ)
  obtain rfl := Option.some.inj hf
  exact AW.vret (st := []) dX6_init_14 rfl hK
def f_X6_init_9 (N : Nat) (ρ : Rh) (I : Nat → Nat → Int32) (J : Nat → Nat → Int64) (p0 : Nat) (p1 : Int32) (p2 : Int32) : Option ((Nat → Nat → Int32)) := (if ρ.2.1 p0 = (0, 9) then some (u2 (u2 I p0 0 p1) p0 1 p2) else none)
theorem c_X6_init_9 {G : Gd} {d N : Nat} {K : Ah → Option Value → Prop} {ρ : Rh} {I : Nat → Nat → Int32} {J : Nat → Nat → Int64} {p0 : Nat} {p1 : Int32} {p2 : Int32} {o : (Nat → Nat → Int32)} (hs : Sh ρ) (hf : f_X6_init_9 N ρ I J p0 p1 p2 = some o) (hK : K (o, J, ρ) none) : AM G (d + 1) 0 0 mX6_init [.ref p0, .int p1, .int p2] (I, J, ρ) K := by
  unfold f_X6_init_9 at hf
  refine AM.intro okX6_init.2.2.2.1 (Nat.le_of_ble_eq_true rfl) [some (.ref p0), some (.int p1), some (.int p2)] rfl ?_
  refine AW.aload_n dX6_init_0 rfl ?_
  refine AW.obj obX6_1 ob_i ob_c dX6_init_1 (Nat.le_of_ble_eq_true rfl) ?_
  refine AW.aload_n dX6_init_4 rfl ?_
  refine AW.iload_n dX6_init_5 rfl ?_
  obtain ⟨h1, hf⟩ := gd_split hf
  refine TW.putI fX6_7_9 h1 (Or.inr ⟨rfl, fX6_7_9o⟩) dX6_init_6 ?_
  show AW G mX6_init (d + 1) 0 0 K 9 [some (.ref p0), some (.int p1), some (.int p2)] [] ((u2 I p0 0 p1), J, ρ)
  refine AW.aload_n dX6_init_9 rfl ?_
  refine AW.iload_n dX6_init_10 rfl ?_
  refine TW.putI fX6_13_9 h1 (Or.inr ⟨rfl, fX6_13_9o⟩) dX6_init_11 ?_
  show AW G mX6_init (d + 1) 0 0 K 14 [some (.ref p0), some (.int p1), some (.int p2)] [] ((u2 (u2 I p0 0 p1) p0 1 p2), J, ρ)
  obtain rfl := Option.some.inj hf
  exact AW.vret (st := []) dX6_init_14 rfl hK
def f_X6_init_1 (N : Nat) (ρ : Rh) (I : Nat → Nat → Int32) (J : Nat → Nat → Int64) (p0 : Nat) (p1 : Int32) (p2 : Int32) : Option ((Nat → Nat → Int32)) := (if ρ.2.1 p0 = (0, 1) then some (u2 (u2 I p0 0 p1) p0 1 p2) else none)
theorem c_X6_init_1 {G : Gd} {d N : Nat} {K : Ah → Option Value → Prop} {ρ : Rh} {I : Nat → Nat → Int32} {J : Nat → Nat → Int64} {p0 : Nat} {p1 : Int32} {p2 : Int32} {o : (Nat → Nat → Int32)} (hs : Sh ρ) (hf : f_X6_init_1 N ρ I J p0 p1 p2 = some o) (hK : K (o, J, ρ) none) : AM G (d + 1) 0 0 mX6_init [.ref p0, .int p1, .int p2] (I, J, ρ) K := by
  unfold f_X6_init_1 at hf
  refine AM.intro okX6_init.2.2.2.1 (Nat.le_of_ble_eq_true rfl) [some (.ref p0), some (.int p1), some (.int p2)] rfl ?_
  refine AW.aload_n dX6_init_0 rfl ?_
  refine AW.obj obX6_1 ob_i ob_c dX6_init_1 (Nat.le_of_ble_eq_true rfl) ?_
  refine AW.aload_n dX6_init_4 rfl ?_
  refine AW.iload_n dX6_init_5 rfl ?_
  obtain ⟨h1, hf⟩ := gd_split hf
  refine TW.putI fX6_7_1 h1 (Or.inr ⟨rfl, fX6_7_1o⟩) dX6_init_6 ?_
  show AW G mX6_init (d + 1) 0 0 K 9 [some (.ref p0), some (.int p1), some (.int p2)] [] ((u2 I p0 0 p1), J, ρ)
  refine AW.aload_n dX6_init_9 rfl ?_
  refine AW.iload_n dX6_init_10 rfl ?_
  refine TW.putI fX6_13_1 h1 (Or.inr ⟨rfl, fX6_13_1o⟩) dX6_init_11 ?_
  show AW G mX6_init (d + 1) 0 0 K 14 [some (.ref p0), some (.int p1), some (.int p2)] [] ((u2 (u2 I p0 0 p1) p0 1 p2), J, ρ)
  obtain rfl := Option.some.inj hf
  exact AW.vret (st := []) dX6_init_14 rfl hK
def f_X5_init_5 (N : Nat) (ρ : Rh) (I : Nat → Nat → Int32) (J : Nat → Nat → Int64) (p0 : Nat) (p1 : Int32) (p2 : Int32) : Option ((Nat → Nat → Int32)) := (Option.bind (f_X6_init_5 N ρ I J p0 p1 p2) fun v1 => some v1)
theorem c_X5_init_5 {G : Gd} {d N : Nat} {K : Ah → Option Value → Prop} {ρ : Rh} {I : Nat → Nat → Int32} {J : Nat → Nat → Int64} {p0 : Nat} {p1 : Int32} {p2 : Int32} {o : (Nat → Nat → Int32)} (hs : Sh ρ) (hf : f_X5_init_5 N ρ I J p0 p1 p2 = some o) (hK : K (o, J, ρ) none) : AM G (d + 2) 0 0 mX5_init [.ref p0, .int p1, .int p2] (I, J, ρ) K := by
  unfold f_X5_init_5 at hf
  refine AM.intro okX5_init.2.2.2.1 (Nat.le_of_ble_eq_true rfl) [some (.ref p0), some (.int p1), some (.int p2)] rfl ?_
  refine AW.aload_n dX5_init_0 rfl ?_
  refine AW.iload_n dX5_init_1 rfl ?_
  refine AW.iload_n dX5_init_2 rfl ?_
  obtain ⟨v1, gv1, hf⟩ := ob_split hf
  refine AW.zz (AW.invi (a := p0) (c1 := 0) (n1 := 0) (c := 0) (n := 0) (as := [.int p1, .int p2]) (rest := []) inX5_1 dX5_init_3 rfl rfl (Nat.le_of_ble_eq_true rfl) (c_X6_init_5 hs gv1 ?_))
  show AW G mX5_init (d + 2) 0 0 K 6 [some (.ref p0), some (.int p1), some (.int p2)] [] (v1, J, ρ)
  obtain rfl := Option.some.inj hf
  exact AW.vret (st := []) dX5_init_6 rfl hK
def f_X5_init_1 (N : Nat) (ρ : Rh) (I : Nat → Nat → Int32) (J : Nat → Nat → Int64) (p0 : Nat) (p1 : Int32) (p2 : Int32) : Option ((Nat → Nat → Int32)) := (Option.bind (f_X6_init_1 N ρ I J p0 p1 p2) fun v1 => some v1)
theorem c_X5_init_1 {G : Gd} {d N : Nat} {K : Ah → Option Value → Prop} {ρ : Rh} {I : Nat → Nat → Int32} {J : Nat → Nat → Int64} {p0 : Nat} {p1 : Int32} {p2 : Int32} {o : (Nat → Nat → Int32)} (hs : Sh ρ) (hf : f_X5_init_1 N ρ I J p0 p1 p2 = some o) (hK : K (o, J, ρ) none) : AM G (d + 2) 0 0 mX5_init [.ref p0, .int p1, .int p2] (I, J, ρ) K := by
  unfold f_X5_init_1 at hf
  refine AM.intro okX5_init.2.2.2.1 (Nat.le_of_ble_eq_true rfl) [some (.ref p0), some (.int p1), some (.int p2)] rfl ?_
  refine AW.aload_n dX5_init_0 rfl ?_
  refine AW.iload_n dX5_init_1 rfl ?_
  refine AW.iload_n dX5_init_2 rfl ?_
  obtain ⟨v1, gv1, hf⟩ := ob_split hf
  refine AW.zz (AW.invi (a := p0) (c1 := 0) (n1 := 0) (c := 0) (n := 0) (as := [.int p1, .int p2]) (rest := []) inX5_1 dX5_init_3 rfl rfl (Nat.le_of_ble_eq_true rfl) (c_X6_init_1 hs gv1 ?_))
  show AW G mX5_init (d + 2) 0 0 K 6 [some (.ref p0), some (.int p1), some (.int p2)] [] (v1, J, ρ)
  obtain rfl := Option.some.inj hf
  exact AW.vret (st := []) dX5_init_6 rfl hK
def f_X1_init_1 (N : Nat) (ρ : Rh) (I : Nat → Nat → Int32) (J : Nat → Nat → Int64) (p0 : Nat) (p1 : Int32) (p2 : Int32) : Option ((Nat → Nat → Int32)) := (Option.bind (f_X5_init_1 N ρ I J p0 p1 p2) fun v1 => some v1)
theorem c_X1_init_1 {G : Gd} {d N : Nat} {K : Ah → Option Value → Prop} {ρ : Rh} {I : Nat → Nat → Int32} {J : Nat → Nat → Int64} {p0 : Nat} {p1 : Int32} {p2 : Int32} {o : (Nat → Nat → Int32)} (hs : Sh ρ) (hf : f_X1_init_1 N ρ I J p0 p1 p2 = some o) (hK : K (o, J, ρ) none) : AM G (d + 3) 0 0 mX1_init [.ref p0, .int p1, .int p2] (I, J, ρ) K := by
  unfold f_X1_init_1 at hf
  refine AM.intro okX1_init.2.2.2.1 (Nat.le_of_ble_eq_true rfl) [some (.ref p0), some (.int p1), some (.int p2)] rfl ?_
  refine AW.aload_n dX1_init_0 rfl ?_
  refine AW.iload_n dX1_init_1 rfl ?_
  refine AW.iload_n dX1_init_2 rfl ?_
  obtain ⟨v1, gv1, hf⟩ := ob_split hf
  refine AW.zz (AW.invi (a := p0) (c1 := 0) (n1 := 0) (c := 0) (n := 0) (as := [.int p1, .int p2]) (rest := []) inX1_1 dX1_init_3 rfl rfl (Nat.le_of_ble_eq_true rfl) (c_X5_init_1 hs gv1 ?_))
  show AW G mX1_init (d + 3) 0 0 K 6 [some (.ref p0), some (.int p1), some (.int p2)] [] (v1, J, ρ)
  obtain rfl := Option.some.inj hf
  exact AW.vret (st := []) dX1_init_6 rfl hK
def f_X2_init (N : Nat) (ρ : Rh) (I : Nat → Nat → Int32) (J : Nat → Nat → Int64) (p0 : Nat) (p1 : Int32) (p2 : Nat) (p3 : Int32) : Option ((Nat → Nat → Int32) × (Rh)) := (if ρ.2.1 p0 = (0, 2) then (if 115 ≤ p0 then some ((u2 (u2 I p0 0 p1) p0 2 p3), (u2 ρ.1 p0 1 (some p2), ρ.2)) else none) else none)
theorem c_X2_init {G : Gd} {d N : Nat} {K : Ah → Option Value → Prop} {ρ : Rh} {I : Nat → Nat → Int32} {J : Nat → Nat → Int64} {p0 : Nat} {p1 : Int32} {p2 : Nat} {p3 : Int32} {o : (Nat → Nat → Int32) × (Rh)} (hs : Sh ρ) (hf : f_X2_init N ρ I J p0 p1 p2 p3 = some o) (hK : (Sh o.2 → K (o.1, J, o.2) none)) : AM G (d + 1) 0 0 mX2_init [.ref p0, .int p1, .ref p2, .int p3] (I, J, ρ) K := by
  unfold f_X2_init at hf
  refine AM.intro okX2_init.2.2.2.1 (Nat.le_of_ble_eq_true rfl) [some (.ref p0), some (.int p1), some (.ref p2), some (.int p3)] rfl ?_
  refine AW.aload_n dX2_init_0 rfl ?_
  refine AW.obj obX2_3 ob_i ob_c dX2_init_1 (Nat.le_of_ble_eq_true rfl) ?_
  refine AW.aload_n dX2_init_4 rfl ?_
  refine AW.iload_n dX2_init_5 rfl ?_
  obtain ⟨h1, hf⟩ := gd_split hf
  refine TW.putI fX2_9_2 h1 (Or.inr ⟨rfl, fX2_9_2o⟩) dX2_init_6 ?_
  show AW G mX2_init (d + 1) 0 0 K 9 [some (.ref p0), some (.int p1), some (.ref p2), some (.int p3)] [] ((u2 I p0 0 p1), J, ρ)
  refine AW.aload_n dX2_init_9 rfl ?_
  refine AW.aload_n dX2_init_10 rfl ?_
  refine TW.putR (o := (some p2)) fX2_15_2 h1 rfl (Or.inr ⟨rfl, fX2_15_2o⟩) dX2_init_11 ?_
  obtain ⟨h2, hf⟩ := gd_split hf
  have hs := Sh.putH hs h2 1 (some p2)
  show AW G mX2_init (d + 1) 0 0 K 14 [some (.ref p0), some (.int p1), some (.ref p2), some (.int p3)] [] ((u2 I p0 0 p1), J, (u2 ρ.1 p0 1 (some p2), ρ.2))
  refine AW.aload_n dX2_init_14 rfl ?_
  refine AW.iload_n dX2_init_15 rfl ?_
  refine TW.putI fX2_19_2 h1 (Or.inr ⟨rfl, fX2_19_2o⟩) dX2_init_16 ?_
  show AW G mX2_init (d + 1) 0 0 K 19 [some (.ref p0), some (.int p1), some (.ref p2), some (.int p3)] [] ((u2 (u2 I p0 0 p1) p0 2 p3), J, (u2 ρ.1 p0 1 (some p2), ρ.2))
  obtain rfl := Option.some.inj hf
  exact AW.vret (st := []) dX2_init_19 rfl ((show Sh (u2 ρ.1 p0 1 (some p2), ρ.2) → _ from hK) hs)
def f_X4_init_4 (N : Nat) (ρ : Rh) (I : Nat → Nat → Int32) (J : Nat → Nat → Int64) (p0 : Nat) (p1 : Int32) (p2 : Int32) : Option ((Nat → Nat → Int32)) := (Option.bind (f_X6_init_4 N ρ I J p0 p1 p2) fun v1 => some v1)
theorem c_X4_init_4 {G : Gd} {d N : Nat} {K : Ah → Option Value → Prop} {ρ : Rh} {I : Nat → Nat → Int32} {J : Nat → Nat → Int64} {p0 : Nat} {p1 : Int32} {p2 : Int32} {o : (Nat → Nat → Int32)} (hs : Sh ρ) (hf : f_X4_init_4 N ρ I J p0 p1 p2 = some o) (hK : K (o, J, ρ) none) : AM G (d + 2) 0 0 mX4_init [.ref p0, .int p1, .int p2] (I, J, ρ) K := by
  unfold f_X4_init_4 at hf
  refine AM.intro okX4_init.2.2.2.1 (Nat.le_of_ble_eq_true rfl) [some (.ref p0), some (.int p1), some (.int p2)] rfl ?_
  refine AW.aload_n dX4_init_0 rfl ?_
  refine AW.iload_n dX4_init_1 rfl ?_
  refine AW.iload_n dX4_init_2 rfl ?_
  obtain ⟨v1, gv1, hf⟩ := ob_split hf
  refine AW.zz (AW.invi (a := p0) (c1 := 0) (n1 := 0) (c := 0) (n := 0) (as := [.int p1, .int p2]) (rest := []) inX4_1 dX4_init_3 rfl rfl (Nat.le_of_ble_eq_true rfl) (c_X6_init_4 hs gv1 ?_))
  show AW G mX4_init (d + 2) 0 0 K 6 [some (.ref p0), some (.int p1), some (.int p2)] [] (v1, J, ρ)
  obtain rfl := Option.some.inj hf
  exact AW.vret (st := []) dX4_init_6 rfl hK
def f_X4_init_3 (N : Nat) (ρ : Rh) (I : Nat → Nat → Int32) (J : Nat → Nat → Int64) (p0 : Nat) (p1 : Int32) (p2 : Int32) : Option ((Nat → Nat → Int32)) := (Option.bind (f_X6_init_3 N ρ I J p0 p1 p2) fun v1 => some v1)
theorem c_X4_init_3 {G : Gd} {d N : Nat} {K : Ah → Option Value → Prop} {ρ : Rh} {I : Nat → Nat → Int32} {J : Nat → Nat → Int64} {p0 : Nat} {p1 : Int32} {p2 : Int32} {o : (Nat → Nat → Int32)} (hs : Sh ρ) (hf : f_X4_init_3 N ρ I J p0 p1 p2 = some o) (hK : K (o, J, ρ) none) : AM G (d + 2) 0 0 mX4_init [.ref p0, .int p1, .int p2] (I, J, ρ) K := by
  unfold f_X4_init_3 at hf
  refine AM.intro okX4_init.2.2.2.1 (Nat.le_of_ble_eq_true rfl) [some (.ref p0), some (.int p1), some (.int p2)] rfl ?_
  refine AW.aload_n dX4_init_0 rfl ?_
  refine AW.iload_n dX4_init_1 rfl ?_
  refine AW.iload_n dX4_init_2 rfl ?_
  obtain ⟨v1, gv1, hf⟩ := ob_split hf
  refine AW.zz (AW.invi (a := p0) (c1 := 0) (n1 := 0) (c := 0) (n := 0) (as := [.int p1, .int p2]) (rest := []) inX4_1 dX4_init_3 rfl rfl (Nat.le_of_ble_eq_true rfl) (c_X6_init_3 hs gv1 ?_))
  show AW G mX4_init (d + 2) 0 0 K 6 [some (.ref p0), some (.int p1), some (.int p2)] [] (v1, J, ρ)
  obtain rfl := Option.some.inj hf
  exact AW.vret (st := []) dX4_init_6 rfl hK
def f_X3_init_3 (N : Nat) (ρ : Rh) (I : Nat → Nat → Int32) (J : Nat → Nat → Int64) (p0 : Nat) (p1 : Int32) (p2 : Int32) : Option ((Nat → Nat → Int32)) := (Option.bind (f_X4_init_3 N ρ I J p0 p1 p2) fun v1 => some v1)
theorem c_X3_init_3 {G : Gd} {d N : Nat} {K : Ah → Option Value → Prop} {ρ : Rh} {I : Nat → Nat → Int32} {J : Nat → Nat → Int64} {p0 : Nat} {p1 : Int32} {p2 : Int32} {o : (Nat → Nat → Int32)} (hs : Sh ρ) (hf : f_X3_init_3 N ρ I J p0 p1 p2 = some o) (hK : K (o, J, ρ) none) : AM G (d + 3) 0 0 mX3_init [.ref p0, .int p1, .int p2] (I, J, ρ) K := by
  unfold f_X3_init_3 at hf
  refine AM.intro okX3_init.2.2.2.1 (Nat.le_of_ble_eq_true rfl) [some (.ref p0), some (.int p1), some (.int p2)] rfl ?_
  refine AW.aload_n dX3_init_0 rfl ?_
  refine AW.iload_n dX3_init_1 rfl ?_
  refine AW.iload_n dX3_init_2 rfl ?_
  obtain ⟨v1, gv1, hf⟩ := ob_split hf
  refine AW.zz (AW.invi (a := p0) (c1 := 0) (n1 := 0) (c := 0) (n := 0) (as := [.int p1, .int p2]) (rest := []) inX3_1 dX3_init_3 rfl rfl (Nat.le_of_ble_eq_true rfl) (c_X4_init_3 hs gv1 ?_))
  show AW G mX3_init (d + 3) 0 0 K 6 [some (.ref p0), some (.int p1), some (.int p2)] [] (v1, J, ρ)
  obtain rfl := Option.some.inj hf
  exact AW.vret (st := []) dX3_init_6 rfl hK
def f_X9_init_9 (N : Nat) (ρ : Rh) (I : Nat → Nat → Int32) (J : Nat → Nat → Int64) (p0 : Nat) (p1 : Int32) (p2 : Int32) (p3 : Option Nat) : Option ((Nat → Nat → Int32) × (Nat → Nat → Int64) × (Rh)) := (Option.bind (f_X6_init_9 N ρ I J p0 p1 p2) fun v1 => (bnd (32 + ρ.2.2) fun a2 => (if (alρ ρ (1, 8)).2.1 p0 = (0, 9) then (if 115 ≤ p0 then (ocase p3 (some ((up v1 a2 (fun _ => 0)), (up J a2 (fun _ => 0)), (u2 (alρ ρ (1, 8)).1 p0 2 (some a2), (alρ ρ (1, 8)).2))) (fun a5 => (if (u2 (alρ ρ (1, 8)).1 p0 2 (some a2), (alρ ρ (1, 8)).2).2.1 a5 = (0, 7) then (Option.bind ((u2 (alρ ρ (1, 8)).1 p0 2 (some a2), (alρ ρ (1, 8)).2).1 a5 2) fun a7 => (Option.bind ((u2 (alρ ρ (1, 8)).1 p0 2 (some a2), (alρ ρ (1, 8)).2).1 p0 2) fun a8 => (if (u2 (alρ ρ (1, 8)).1 p0 2 (some a2), (alρ ρ (1, 8)).2).2.1 a7 = (1, ((u2 (alρ ρ (1, 8)).1 p0 2 (some a2), (alρ ρ (1, 8)).2).2.1 a7).2) then (if (u2 (alρ ρ (1, 8)).1 p0 2 (some a2), (alρ ρ (1, 8)).2).2.1 a8 = (1, ((u2 (alρ ρ (1, 8)).1 p0 2 (some a2), (alρ ρ (1, 8)).2).2.1 a8).2) then (if ¬ (if (8 : Int32) < ((up v1 a2 (fun _ => 0)) a5 1) then (8 : Int32) else ((up v1 a2 (fun _ => 0)) a5 1)) < 0 then (if tn (0 : Int32) + tn (if (8 : Int32) < ((up v1 a2 (fun _ => 0)) a5 1) then (8 : Int32) else ((up v1 a2 (fun _ => 0)) a5 1)) ≤ ((u2 (alρ ρ (1, 8)).1 p0 2 (some a2), (alρ ρ (1, 8)).2).2.1 a7).2 then (if tn (0 : Int32) + tn (if (8 : Int32) < ((up v1 a2 (fun _ => 0)) a5 1) then (8 : Int32) else ((up v1 a2 (fun _ => 0)) a5 1)) ≤ ((u2 (alρ ρ (1, 8)).1 p0 2 (some a2), (alρ ρ (1, 8)).2).2.1 a8).2 then some ((up (up v1 a2 (fun _ => 0)) a8 (cpy ((up v1 a2 (fun _ => 0)) a7) ((up v1 a2 (fun _ => 0)) a8) (tn (0 : Int32)) (tn (0 : Int32)) (tn (if (8 : Int32) < ((up v1 a2 (fun _ => 0)) a5 1) then (8 : Int32) else ((up v1 a2 (fun _ => 0)) a5 1))))), (up J a2 (fun _ => 0)), (u2 (alρ ρ (1, 8)).1 p0 2 (some a2), (alρ ρ (1, 8)).2)) else none) else none) else none) else none) else none))) else none))) else none) else none)))
theorem c_X9_init_9 {G : Gd} {d N : Nat} {K : Ah → Option Value → Prop} {ρ : Rh} {I : Nat → Nat → Int32} {J : Nat → Nat → Int64} {p0 : Nat} {p1 : Int32} {p2 : Int32} {p3 : Option Nat} {o : (Nat → Nat → Int32) × (Nat → Nat → Int64) × (Rh)} (hs : Sh ρ) (hf : f_X9_init_9 N ρ I J p0 p1 p2 p3 = some o) (hK : (Sh o.2.2 → K (o.1, o.2.1, o.2.2) none)) : AM G (d + 2) 1 8 mX9_init [.ref p0, .int p1, .int p2, va_rf p3] (I, J, ρ) K := by
  unfold f_X9_init_9 at hf
  refine AM.intro okX9_init.2.2.2.1 (by cases p3 <;> exact (Nat.le_of_ble_eq_true rfl)) [some (.ref p0), some (.int p1), some (.int p2), some (va_rf p3)] (by cases p3 <;> rfl) ?_
  refine AW.aload_n dX9_init_0 rfl ?_
  refine AW.iload_n dX9_init_1 rfl ?_
  refine AW.iload_n dX9_init_2 rfl ?_
  obtain ⟨v1, gv1, hf⟩ := ob_split hf
  refine AW.zz (AW.invi (a := p0) (c1 := 0) (n1 := 0) (c := 1) (n := 8) (as := [.int p1, .int p2]) (rest := []) inX9_3 dX9_init_3 rfl rfl (Nat.le_of_ble_eq_true rfl) (c_X6_init_9 hs gv1 ?_))
  show AW G mX9_init (d + 2) 1 8 K 6 [some (.ref p0), some (.int p1), some (.int p2), some (va_rf p3)] [] (v1, J, ρ)
  refine AW.aload_n dX9_init_6 rfl ?_
  refine AW.bipush (v := (8 : Int32)) dX9_init_7 (by decide) ?_
  obtain ⟨a2, ga2, hf⟩ := bnd_one hf
  refine TW.newPrim (t := 1) (N := 8) (c := 0) (n := 0) rfl (by decide) (by decide) ac_int (by decide) (by decide) (by decide) ga2 dX9_init_9 ?_
  have hs := Sh.al hs (1, 8)
  show AW G mX9_init (d + 2) 0 0 K 11 [some (.ref p0), some (.int p1), some (.int p2), some (va_rf p3)] [.ref a2, .ref p0] ((up v1 a2 (fun _ => 0)), (up J a2 (fun _ => 0)), (alρ ρ (1, 8)))
  obtain ⟨h3, hf⟩ := gd_split hf
  refine TW.putR (o := (some a2)) fX9_9_9 h3 rfl (Or.inr ⟨rfl, fX9_9_9o⟩) dX9_init_11 ?_
  obtain ⟨h4, hf⟩ := gd_split hf
  have hs := Sh.putH hs h4 2 (some a2)
  show AW G mX9_init (d + 2) 0 0 K 14 [some (.ref p0), some (.int p1), some (.int p2), some (va_rf p3)] [] ((up v1 a2 (fun _ => 0)), (up J a2 (fun _ => 0)), (u2 (alρ ρ (1, 8)).1 p0 2 (some a2), (alρ ρ (1, 8)).2))
  refine AW.aload_nq dX9_init_14 rfl ?_
  refine AW.ifnull (tgt := 40) dX9_init_15 (by decide) (fun hc => ?_) (fun a5 hc => ?_)
  · have hf := ocase_n hc hf
    try rw [hc]
    show AW G mX9_init (d + 2) 0 0 K 40 [some (.ref p0), some (.int p1), some (.int p2), some (.null)] [] ((up v1 a2 (fun _ => 0)), (up J a2 (fun _ => 0)), (u2 (alρ ρ (1, 8)).1 p0 2 (some a2), (alρ ρ (1, 8)).2))
    obtain rfl := Option.some.inj hf
    exact AW.vret (st := []) dX9_init_40 rfl ((show Sh (u2 (alρ ρ (1, 8)).1 p0 2 (some a2), (alρ ρ (1, 8)).2) → _ from hK) hs)
  · have hf := ocase_s hc hf
    try rw [hc]
    show AW G mX9_init (d + 2) 0 0 K 18 [some (.ref p0), some (.int p1), some (.int p2), some (.ref a5)] [] ((up v1 a2 (fun _ => 0)), (up J a2 (fun _ => 0)), (u2 (alρ ρ (1, 8)).1 p0 2 (some a2), (alρ ρ (1, 8)).2))
    refine AW.aload_n dX9_init_18 rfl ?_
    obtain ⟨h6, hf⟩ := gd_split hf
    obtain ⟨a7, ga7, hf⟩ := ob_split hf
    refine TW.getR (v := .ref a7) fX9_15_7 h6 (rf_some ga7) dX9_init_19 ?_
    refine AW.iconst (v := (0 : Int32)) dX9_init_22 (by decide) ?_
    refine AW.aload_n dX9_init_23 rfl ?_
    obtain ⟨a8, ga8, hf⟩ := ob_split hf
    refine TW.getR (v := .ref a8) fX9_9_9 h3 (rf_some ga8) dX9_init_24 ?_
    refine AW.iconst (v := (0 : Int32)) dX9_init_27 (by decide) ?_
    refine AW.aload_n dX9_init_28 rfl ?_
    refine TW.getI (x := ((up v1 a2 (fun _ => 0)) a5 1)) fX9_20_7 h6 rfl dX9_init_29 ?_
    refine AW.bipush (v := (8 : Int32)) dX9_init_32 (by decide) ?_
    refine AW.mmin mtX9_24 dX9_init_34 (Nat.le_of_ble_eq_true rfl) ?_
    obtain ⟨h9, hf⟩ := gd_split hf
    obtain ⟨h10, hf⟩ := gd_split hf
    obtain ⟨h11, hf⟩ := gd_split hf
    obtain ⟨h12, hf⟩ := gd_split hf
    obtain ⟨h13, hf⟩ := gd_split hf
    refine TW.copyI cpX9_30 h9 h10 (by decide) (by decide) h11 h12 h13 (Nat.le_of_ble_eq_true rfl) dX9_init_37 ?_
    show AW G mX9_init (d + 2) 0 0 K 40 [some (.ref p0), some (.int p1), some (.int p2), some (.ref a5)] [] ((up (up v1 a2 (fun _ => 0)) a8 (cpy ((up v1 a2 (fun _ => 0)) a7) ((up v1 a2 (fun _ => 0)) a8) (tn (0 : Int32)) (tn (0 : Int32)) (tn (if (8 : Int32) < ((up v1 a2 (fun _ => 0)) a5 1) then (8 : Int32) else ((up v1 a2 (fun _ => 0)) a5 1))))), (up J a2 (fun _ => 0)), (u2 (alρ ρ (1, 8)).1 p0 2 (some a2), (alρ ρ (1, 8)).2))
    obtain rfl := Option.some.inj hf
    exact AW.vret (st := []) dX9_init_40 rfl ((show Sh (u2 (alρ ρ (1, 8)).1 p0 2 (some a2), (alρ ρ (1, 8)).2) → _ from hK) hs)
def f_X11_ruleOf (N : Nat) (ρ : Rh) (I : Nat → Nat → Int32) (J : Nat → Nat → Int64) (p1 : Int32) (p2 : Int32) (p3 : Option Nat) : Option ((Nat → Nat → Int32) × (Nat → Nat → Int64) × (Rh) × Option Nat) := (if p1 = (1 : Int32) then (bnd (32 + ρ.2.2) fun a1 => (Option.bind (f_X5_init_5 N (alρ ρ (0, 5)) (up I a1 (fun _ => 0)) (up J a1 (fun _ => 0)) a1 p1 p2) fun v2 => some (v2, (up J a1 (fun _ => 0)), (alρ ρ (0, 5)), (some a1)))) else (if p1 = (2 : Int32) then (bnd (32 + ρ.2.2) fun a3 => (Option.bind (f_X4_init_4 N (alρ ρ (0, 4)) (up I a3 (fun _ => 0)) (up J a3 (fun _ => 0)) a3 p1 p2) fun v4 => some (v4, (up J a3 (fun _ => 0)), (alρ ρ (0, 4)), (some a3)))) else (if p1 = (3 : Int32) then (bnd (32 + ρ.2.2) fun a5 => (Option.bind (f_X3_init_3 N (alρ ρ (0, 3)) (up I a5 (fun _ => 0)) (up J a5 (fun _ => 0)) a5 p1 p2) fun v6 => some (v6, (up J a5 (fun _ => 0)), (alρ ρ (0, 3)), (some a5)))) else (if p1 = (4 : Int32) then (bnd (32 + ρ.2.2) fun a7 => (Option.bind (f_X9_init_9 N (alρ ρ (0, 9)) (up I a7 (fun _ => 0)) (up J a7 (fun _ => 0)) a7 p1 p2 p3) fun v8 => some (v8.1, v8.2.1, v8.2.2, (some a7)))) else (if p1 = (5 : Int32) then (bnd (32 + ρ.2.2) fun a9 => (Option.bind (f_X1_init_1 N (alρ ρ (0, 1)) (up I a9 (fun _ => 0)) (up J a9 (fun _ => 0)) a9 p1 p2) fun v10 => some (v10, (up J a9 (fun _ => 0)), (alρ ρ (0, 1)), (some a9)))) else (bnd (32 + ρ.2.2) fun a11 => (Option.bind (f_X6_init_6 N (alρ ρ (0, 6)) (up I a11 (fun _ => 0)) (up J a11 (fun _ => 0)) a11 p1 p2) fun v12 => some (v12, (up J a11 (fun _ => 0)), (alρ ρ (0, 6)), (some a11)))))))))
theorem c_X11_ruleOf {G : Gd} {d N : Nat} {K : Ah → Option Value → Prop} {ρ : Rh} {I : Nat → Nat → Int32} {J : Nat → Nat → Int64} {p1 : Int32} {p2 : Int32} {p3 : Option Nat} {o : (Nat → Nat → Int32) × (Nat → Nat → Int64) × (Rh) × Option Nat} (hs : Sh ρ) (hf : f_X11_ruleOf N ρ I J p1 p2 p3 = some o) (hK : (Sh o.2.2.1 → K (o.1, o.2.1, o.2.2.1) (some (va_rf o.2.2.2)))) : AM G (d + 4) 2 11 mX11_ruleOf [.int p1, .int p2, va_rf p3] (I, J, ρ) K := by
  unfold f_X11_ruleOf at hf
  refine AM.intro okX11_ruleOf.2.2.2.1 (by cases p3 <;> exact (Nat.le_of_ble_eq_true rfl)) [some (.int p1), some (.int p2), some (va_rf p3)] (by cases p3 <;> rfl) ?_
  refine AW.iload_n dX11_ruleOf_0 rfl ?_
  by_cases hc1 : p1 = (1 : Int32)
  · have hf := (if_pos hc1).symm.trans hf
    refine AW.swIn (tgt := 36) dX11_ruleOf_1 (by rw [hc1]; decide) (by rw [hc1]; decide) (by rw [hc1]; rfl) (by decide) ?_
    obtain ⟨a1, ga1, hf⟩ := bnd_one hf
    refine TW.new (c := 1) (n := 9) nrX11_270 ga1 dX11_ruleOf_36 ?_
    have hs := Sh.al hs (0, 5)
    show AW G mX11_ruleOf (d + 4) 1 9 K 39 [some (.int p1), some (.int p2), some (va_rf p3)] [.ref a1] ((up I a1 (fun _ => 0)), (up J a1 (fun _ => 0)), (alρ ρ (0, 5)))
    refine AW.dup dX11_ruleOf_39 rfl ?_
    refine AW.iload_n dX11_ruleOf_40 rfl ?_
    refine AW.iload_n dX11_ruleOf_41 rfl ?_
    obtain ⟨v2, gv2, hf⟩ := ob_split hf
    refine AW.zz (AW.invi (a := a1) (c1 := 0) (n1 := 0) (c := 1) (n := 9) (as := [.int p1, .int p2]) (rest := [.ref a1]) inX11_272 dX11_ruleOf_42 rfl rfl (Nat.le_of_ble_eq_true rfl) (c_X5_init_5 hs gv2 ?_))
    show AW G mX11_ruleOf (d + 4) 1 9 K 45 [some (.int p1), some (.int p2), some (va_rf p3)] [.ref a1] (v2, (up J a1 (fun _ => 0)), (alρ ρ (0, 5)))
    obtain rfl := Option.some.inj hf
    exact AW.aret (st := []) (o := (some a1)) dX11_ruleOf_45 (Or.inl ⟨_, rfl⟩) ((show Sh (alρ ρ (0, 5)) → _ from hK) hs)
  have hf := (if_neg hc1).symm.trans hf
  by_cases hc2 : p1 = (2 : Int32)
  · have hf := (if_pos hc2).symm.trans hf
    refine AW.swIn (tgt := 46) dX11_ruleOf_1 (by rw [hc2]; decide) (by rw [hc2]; decide) (by rw [hc2]; rfl) (by decide) ?_
    obtain ⟨a3, ga3, hf⟩ := bnd_one hf
    refine TW.new (c := 1) (n := 9) nrX11_274 ga3 dX11_ruleOf_46 ?_
    have hs := Sh.al hs (0, 4)
    show AW G mX11_ruleOf (d + 4) 1 9 K 49 [some (.int p1), some (.int p2), some (va_rf p3)] [.ref a3] ((up I a3 (fun _ => 0)), (up J a3 (fun _ => 0)), (alρ ρ (0, 4)))
    refine AW.dup dX11_ruleOf_49 rfl ?_
    refine AW.iload_n dX11_ruleOf_50 rfl ?_
    refine AW.iload_n dX11_ruleOf_51 rfl ?_
    obtain ⟨v4, gv4, hf⟩ := ob_split hf
    refine AW.zz (AW.invi (a := a3) (c1 := 0) (n1 := 0) (c := 1) (n := 9) (as := [.int p1, .int p2]) (rest := [.ref a3]) inX11_276 dX11_ruleOf_52 rfl rfl (Nat.le_of_ble_eq_true rfl) (c_X4_init_4 hs gv4 ?_))
    show AW G mX11_ruleOf (d + 4) 1 9 K 55 [some (.int p1), some (.int p2), some (va_rf p3)] [.ref a3] (v4, (up J a3 (fun _ => 0)), (alρ ρ (0, 4)))
    obtain rfl := Option.some.inj hf
    exact AW.aret (st := []) (o := (some a3)) dX11_ruleOf_55 (Or.inl ⟨_, rfl⟩) ((show Sh (alρ ρ (0, 4)) → _ from hK) hs)
  have hf := (if_neg hc2).symm.trans hf
  by_cases hc3 : p1 = (3 : Int32)
  · have hf := (if_pos hc3).symm.trans hf
    refine AW.swIn (tgt := 56) dX11_ruleOf_1 (by rw [hc3]; decide) (by rw [hc3]; decide) (by rw [hc3]; rfl) (by decide) ?_
    obtain ⟨a5, ga5, hf⟩ := bnd_one hf
    refine TW.new (c := 1) (n := 9) nrX11_277 ga5 dX11_ruleOf_56 ?_
    have hs := Sh.al hs (0, 3)
    show AW G mX11_ruleOf (d + 4) 1 9 K 59 [some (.int p1), some (.int p2), some (va_rf p3)] [.ref a5] ((up I a5 (fun _ => 0)), (up J a5 (fun _ => 0)), (alρ ρ (0, 3)))
    refine AW.dup dX11_ruleOf_59 rfl ?_
    refine AW.iload_n dX11_ruleOf_60 rfl ?_
    refine AW.iload_n dX11_ruleOf_61 rfl ?_
    obtain ⟨v6, gv6, hf⟩ := ob_split hf
    refine AW.zz (AW.invi (a := a5) (c1 := 0) (n1 := 0) (c := 1) (n := 9) (as := [.int p1, .int p2]) (rest := [.ref a5]) inX11_279 dX11_ruleOf_62 rfl rfl (Nat.le_of_ble_eq_true rfl) (c_X3_init_3 hs gv6 ?_))
    show AW G mX11_ruleOf (d + 4) 1 9 K 65 [some (.int p1), some (.int p2), some (va_rf p3)] [.ref a5] (v6, (up J a5 (fun _ => 0)), (alρ ρ (0, 3)))
    obtain rfl := Option.some.inj hf
    exact AW.aret (st := []) (o := (some a5)) dX11_ruleOf_65 (Or.inl ⟨_, rfl⟩) ((show Sh (alρ ρ (0, 3)) → _ from hK) hs)
  have hf := (if_neg hc3).symm.trans hf
  by_cases hc4 : p1 = (4 : Int32)
  · have hf := (if_pos hc4).symm.trans hf
    refine AW.swIn (tgt := 66) dX11_ruleOf_1 (by rw [hc4]; decide) (by rw [hc4]; decide) (by rw [hc4]; rfl) (by decide) ?_
    obtain ⟨a7, ga7, hf⟩ := bnd_one hf
    refine TW.new (c := 1) (n := 8) nrX11_280 ga7 dX11_ruleOf_66 ?_
    have hs := Sh.al hs (0, 9)
    show AW G mX11_ruleOf (d + 4) 1 8 K 69 [some (.int p1), some (.int p2), some (va_rf p3)] [.ref a7] ((up I a7 (fun _ => 0)), (up J a7 (fun _ => 0)), (alρ ρ (0, 9)))
    refine AW.dup dX11_ruleOf_69 rfl ?_
    refine AW.iload_n dX11_ruleOf_70 rfl ?_
    refine AW.iload_n dX11_ruleOf_71 rfl ?_
    refine AW.aload_nq dX11_ruleOf_72 rfl ?_
    obtain ⟨v8, gv8, hf⟩ := ob_split hf
    refine AW.invi (a := a7) (c1 := 1) (n1 := 8) (c := 0) (n := 0) (as := [.int p1, .int p2, va_rf p3]) (rest := [.ref a7]) inX11_282 dX11_ruleOf_73 rfl rfl (Nat.le_of_ble_eq_true rfl) (c_X9_init_9 hs gv8 (fun hs => ?_))
    show AW G mX11_ruleOf (d + 4) 0 0 K 76 [some (.int p1), some (.int p2), some (va_rf p3)] [.ref a7] (v8.1, v8.2.1, v8.2.2)
    obtain rfl := Option.some.inj hf
    exact AW.aret (st := []) (o := (some a7)) dX11_ruleOf_76 (Or.inl ⟨_, rfl⟩) ((show Sh v8.2.2 → _ from hK) hs)
  have hf := (if_neg hc4).symm.trans hf
  by_cases hc5 : p1 = (5 : Int32)
  · have hf := (if_pos hc5).symm.trans hf
    refine AW.swIn (tgt := 77) dX11_ruleOf_1 (by rw [hc5]; decide) (by rw [hc5]; decide) (by rw [hc5]; rfl) (by decide) ?_
    obtain ⟨a9, ga9, hf⟩ := bnd_one hf
    refine TW.new (c := 1) (n := 9) nrX11_285 ga9 dX11_ruleOf_77 ?_
    have hs := Sh.al hs (0, 1)
    show AW G mX11_ruleOf (d + 4) 1 9 K 80 [some (.int p1), some (.int p2), some (va_rf p3)] [.ref a9] ((up I a9 (fun _ => 0)), (up J a9 (fun _ => 0)), (alρ ρ (0, 1)))
    refine AW.dup dX11_ruleOf_80 rfl ?_
    refine AW.iload_n dX11_ruleOf_81 rfl ?_
    refine AW.iload_n dX11_ruleOf_82 rfl ?_
    obtain ⟨v10, gv10, hf⟩ := ob_split hf
    refine AW.zz (AW.invi (a := a9) (c1 := 0) (n1 := 0) (c := 1) (n := 9) (as := [.int p1, .int p2]) (rest := [.ref a9]) inX11_287 dX11_ruleOf_83 rfl rfl (Nat.le_of_ble_eq_true rfl) (c_X1_init_1 hs gv10 ?_))
    show AW G mX11_ruleOf (d + 4) 1 9 K 86 [some (.int p1), some (.int p2), some (va_rf p3)] [.ref a9] (v10, (up J a9 (fun _ => 0)), (alρ ρ (0, 1)))
    obtain rfl := Option.some.inj hf
    exact AW.aret (st := []) (o := (some a9)) dX11_ruleOf_86 (Or.inl ⟨_, rfl⟩) ((show Sh (alρ ρ (0, 1)) → _ from hK) hs)
  have hf := (if_neg hc5).symm.trans hf
  have KD : AW G mX11_ruleOf (d + 4) 2 11 K 87 [some (.int p1), some (.int p2), some (va_rf p3)] [] (I, J, ρ) := by
    obtain ⟨a11, ga11, hf⟩ := bnd_one hf
    refine TW.new (c := 1) (n := 9) nrX11_9 ga11 dX11_ruleOf_87 ?_
    have hs := Sh.al hs (0, 6)
    show AW G mX11_ruleOf (d + 4) 1 9 K 90 [some (.int p1), some (.int p2), some (va_rf p3)] [.ref a11] ((up I a11 (fun _ => 0)), (up J a11 (fun _ => 0)), (alρ ρ (0, 6)))
    refine AW.dup dX11_ruleOf_90 rfl ?_
    refine AW.iload_n dX11_ruleOf_91 rfl ?_
    refine AW.iload_n dX11_ruleOf_92 rfl ?_
    obtain ⟨v12, gv12, hf⟩ := ob_split hf
    refine AW.zz (AW.invi (a := a11) (c1 := 0) (n1 := 0) (c := 1) (n := 9) (as := [.int p1, .int p2]) (rest := [.ref a11]) inX11_288 dX11_ruleOf_93 rfl rfl (Nat.le_of_ble_eq_true rfl) (c_X6_init_6 hs gv12 ?_))
    show AW G mX11_ruleOf (d + 4) 1 9 K 96 [some (.int p1), some (.int p2), some (va_rf p3)] [.ref a11] (v12, (up J a11 (fun _ => 0)), (alρ ρ (0, 6)))
    obtain rfl := Option.some.inj hf
    exact AW.aret (st := []) (o := (some a11)) dX11_ruleOf_96 (Or.inl ⟨_, rfl⟩) ((show Sh (alρ ρ (0, 6)) → _ from hK) hs)
  have hc1 : ¬ (p1).toInt = 1 := fun q => hc1 (Int32.toInt_inj.mp q)
  have hc2 : ¬ (p1).toInt = 2 := fun q => hc2 (Int32.toInt_inj.mp q)
  have hc3 : ¬ (p1).toInt = 3 := fun q => hc3 (Int32.toInt_inj.mp q)
  have hc4 : ¬ (p1).toInt = 4 := fun q => hc4 (Int32.toInt_inj.mp q)
  have hc5 : ¬ (p1).toInt = 5 := fun q => hc5 (Int32.toInt_inj.mp q)
  exact AW.swOut dX11_ruleOf_1 (by omega) (by decide) KD
