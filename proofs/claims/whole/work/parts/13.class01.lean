/-! ===== methods 13.class 1 ===== -/
def f_X0_keep (N : Nat) (ρ : Rh) (I : Nat → Nat → Int32) (J : Nat → Nat → Int64) (p0 : Nat) (p1 : Nat) : Option ((Nat → Nat → Int32) × (Rh)) := (if ρ.2.1 p1 = (0, 0) then (Option.bind (ρ.1 p1 1) fun a2 => (if ρ.2.1 p0 = (0, 0) then (Option.bind (ρ.1 p0 1) fun a4 => (if ρ.2.1 a2 = (1, (ρ.2.1 a2).2) then (if ρ.2.1 a4 = (1, (ρ.2.1 a4).2) then (if ¬ (I p1 0) < 0 then (if tn (0 : Int32) + tn (I p1 0) ≤ (ρ.2.1 a2).2 then (if tn (0 : Int32) + tn (I p1 0) ≤ (ρ.2.1 a4).2 then (Option.bind (ρ.1 p1 3) fun a10 => (Option.bind (ρ.1 p0 3) fun a11 => (if ρ.2.1 a10 = (1, (ρ.2.1 a10).2) then (if ρ.2.1 a11 = (1, (ρ.2.1 a11).2) then (if tn (0 : Int32) + tn (4 : Int32) ≤ (ρ.2.1 a10).2 then (if tn (0 : Int32) + tn (4 : Int32) ≤ (ρ.2.1 a11).2 then (Option.bind (ρ.1 p1 4) fun a16 => (Option.bind (ρ.1 p0 4) fun a17 => (if ρ.2.1 a16 = (1, (ρ.2.1 a16).2) then (if ρ.2.1 a17 = (1, (ρ.2.1 a17).2) then (if tn (0 : Int32) + tn (12 : Int32) ≤ (ρ.2.1 a16).2 then (if tn (0 : Int32) + tn (12 : Int32) ≤ (ρ.2.1 a17).2 then (Option.bind (ρ.1 p1 5) fun a22 => (Option.bind (ρ.1 p0 5) fun a23 => (if ρ.2.1 a22 = (1, (ρ.2.1 a22).2) then (if ρ.2.1 a23 = (1, (ρ.2.1 a23).2) then (if tn (0 : Int32) + tn (12 : Int32) ≤ (ρ.2.1 a22).2 then (if tn (0 : Int32) + tn (12 : Int32) ≤ (ρ.2.1 a23).2 then (Option.bind (ρ.1 p1 6) fun a28 => some ((up (up (up (up I a4 (cpy (I a2) (I a4) (tn (0 : Int32)) (tn (0 : Int32)) (tn (I p1 0)))) a11 (cpy ((up I a4 (cpy (I a2) (I a4) (tn (0 : Int32)) (tn (0 : Int32)) (tn (I p1 0)))) a10) ((up I a4 (cpy (I a2) (I a4) (tn (0 : Int32)) (tn (0 : Int32)) (tn (I p1 0)))) a11) (tn (0 : Int32)) (tn (0 : Int32)) (tn (4 : Int32)))) a17 (cpy ((up (up I a4 (cpy (I a2) (I a4) (tn (0 : Int32)) (tn (0 : Int32)) (tn (I p1 0)))) a11 (cpy ((up I a4 (cpy (I a2) (I a4) (tn (0 : Int32)) (tn (0 : Int32)) (tn (I p1 0)))) a10) ((up I a4 (cpy (I a2) (I a4) (tn (0 : Int32)) (tn (0 : Int32)) (tn (I p1 0)))) a11) (tn (0 : Int32)) (tn (0 : Int32)) (tn (4 : Int32)))) a16) ((up (up I a4 (cpy (I a2) (I a4) (tn (0 : Int32)) (tn (0 : Int32)) (tn (I p1 0)))) a11 (cpy ((up I a4 (cpy (I a2) (I a4) (tn (0 : Int32)) (tn (0 : Int32)) (tn (I p1 0)))) a10) ((up I a4 (cpy (I a2) (I a4) (tn (0 : Int32)) (tn (0 : Int32)) (tn (I p1 0)))) a11) (tn (0 : Int32)) (tn (0 : Int32)) (tn (4 : Int32)))) a17) (tn (0 : Int32)) (tn (0 : Int32)) (tn (12 : Int32)))) a23 (cpy ((up (up (up I a4 (cpy (I a2) (I a4) (tn (0 : Int32)) (tn (0 : Int32)) (tn (I p1 0)))) a11 (cpy ((up I a4 (cpy (I a2) (I a4) (tn (0 : Int32)) (tn (0 : Int32)) (tn (I p1 0)))) a10) ((up I a4 (cpy (I a2) (I a4) (tn (0 : Int32)) (tn (0 : Int32)) (tn (I p1 0)))) a11) (tn (0 : Int32)) (tn (0 : Int32)) (tn (4 : Int32)))) a17 (cpy ((up (up I a4 (cpy (I a2) (I a4) (tn (0 : Int32)) (tn (0 : Int32)) (tn (I p1 0)))) a11 (cpy ((up I a4 (cpy (I a2) (I a4) (tn (0 : Int32)) (tn (0 : Int32)) (tn (I p1 0)))) a10) ((up I a4 (cpy (I a2) (I a4) (tn (0 : Int32)) (tn (0 : Int32)) (tn (I p1 0)))) a11) (tn (0 : Int32)) (tn (0 : Int32)) (tn (4 : Int32)))) a16) ((up (up I a4 (cpy (I a2) (I a4) (tn (0 : Int32)) (tn (0 : Int32)) (tn (I p1 0)))) a11 (cpy ((up I a4 (cpy (I a2) (I a4) (tn (0 : Int32)) (tn (0 : Int32)) (tn (I p1 0)))) a10) ((up I a4 (cpy (I a2) (I a4) (tn (0 : Int32)) (tn (0 : Int32)) (tn (I p1 0)))) a11) (tn (0 : Int32)) (tn (0 : Int32)) (tn (4 : Int32)))) a17) (tn (0 : Int32)) (tn (0 : Int32)) (tn (12 : Int32)))) a22) ((up (up (up I a4 (cpy (I a2) (I a4) (tn (0 : Int32)) (tn (0 : Int32)) (tn (I p1 0)))) a11 (cpy ((up I a4 (cpy (I a2) (I a4) (tn (0 : Int32)) (tn (0 : Int32)) (tn (I p1 0)))) a10) ((up I a4 (cpy (I a2) (I a4) (tn (0 : Int32)) (tn (0 : Int32)) (tn (I p1 0)))) a11) (tn (0 : Int32)) (tn (0 : Int32)) (tn (4 : Int32)))) a17 (cpy ((up (up I a4 (cpy (I a2) (I a4) (tn (0 : Int32)) (tn (0 : Int32)) (tn (I p1 0)))) a11 (cpy ((up I a4 (cpy (I a2) (I a4) (tn (0 : Int32)) (tn (0 : Int32)) (tn (I p1 0)))) a10) ((up I a4 (cpy (I a2) (I a4) (tn (0 : Int32)) (tn (0 : Int32)) (tn (I p1 0)))) a11) (tn (0 : Int32)) (tn (0 : Int32)) (tn (4 : Int32)))) a16) ((up (up I a4 (cpy (I a2) (I a4) (tn (0 : Int32)) (tn (0 : Int32)) (tn (I p1 0)))) a11 (cpy ((up I a4 (cpy (I a2) (I a4) (tn (0 : Int32)) (tn (0 : Int32)) (tn (I p1 0)))) a10) ((up I a4 (cpy (I a2) (I a4) (tn (0 : Int32)) (tn (0 : Int32)) (tn (I p1 0)))) a11) (tn (0 : Int32)) (tn (0 : Int32)) (tn (4 : Int32)))) a17) (tn (0 : Int32)) (tn (0 : Int32)) (tn (12 : Int32)))) a23) (tn (0 : Int32)) (tn (0 : Int32)) (tn (12 : Int32)))), (u2 ρ.1 p0 6 (some a28), ρ.2))) else none) else none) else none) else none))) else none) else none) else none) else none))) else none) else none) else none) else none))) else none) else none) else none) else none) else none)) else none)) else none)
theorem c_X0_keep {G : Gd} {d N : Nat} {K : Ah → Option Value → Prop} {ρ : Rh} {I : Nat → Nat → Int32} {J : Nat → Nat → Int64} {p0 : Nat} {p1 : Nat} {o : (Nat → Nat → Int32) × (Rh)} (hs : Sh ρ) (hf : f_X0_keep N ρ I J p0 p1 = some o) (hK : (Sh o.2 → K (o.1, J, o.2) none)) : AM G (d + 1) 0 0 mX0_keep [.ref p0, .ref p1] (I, J, ρ) K := by
  unfold f_X0_keep at hf
  refine AM.intro okX0_keep.2.2.2.1 (Nat.le_of_ble_eq_true rfl) [some (.ref p0), some (.ref p1)] rfl ?_
  refine AW.aload_n dX0_keep_0 rfl ?_
  obtain ⟨h1, hf⟩ := gd_split hf
  obtain ⟨a2, ga2, hf⟩ := ob_split hf
  refine TW.getR (v := .ref a2) fX0_9_0 h1 (rf_some ga2) dX0_keep_1 ?_
  refine AW.iconst (v := (0 : Int32)) dX0_keep_4 (by decide) ?_
  refine AW.aload_n dX0_keep_5 rfl ?_
  obtain ⟨h3, hf⟩ := gd_split hf
  obtain ⟨a4, ga4, hf⟩ := ob_split hf
  refine TW.getR (v := .ref a4) fX0_9_0 h3 (rf_some ga4) dX0_keep_6 ?_
  refine AW.iconst (v := (0 : Int32)) dX0_keep_9 (by decide) ?_
  refine AW.aload_n dX0_keep_10 rfl ?_
  refine TW.getI (x := (I p1 0)) fX0_31_0 h1 rfl dX0_keep_11 ?_
  obtain ⟨h5, hf⟩ := gd_split hf
  obtain ⟨h6, hf⟩ := gd_split hf
  obtain ⟨h7, hf⟩ := gd_split hf
  obtain ⟨h8, hf⟩ := gd_split hf
  obtain ⟨h9, hf⟩ := gd_split hf
  refine TW.copyI cpX0_35 h5 h6 (by decide) (by decide) h7 h8 h9 (Nat.le_of_ble_eq_true rfl) dX0_keep_14 ?_
  show AW G mX0_keep (d + 1) 0 0 K 17 [some (.ref p0), some (.ref p1)] [] ((up I a4 (cpy (I a2) (I a4) (tn (0 : Int32)) (tn (0 : Int32)) (tn (I p1 0)))), J, ρ)
  refine AW.aload_n dX0_keep_17 rfl ?_
  obtain ⟨a10, ga10, hf⟩ := ob_split hf
  refine TW.getR (v := .ref a10) fX0_18_0 h1 (rf_some ga10) dX0_keep_18 ?_
  refine AW.iconst (v := (0 : Int32)) dX0_keep_21 (by decide) ?_
  refine AW.aload_n dX0_keep_22 rfl ?_
  obtain ⟨a11, ga11, hf⟩ := ob_split hf
  refine TW.getR (v := .ref a11) fX0_18_0 h3 (rf_some ga11) dX0_keep_23 ?_
  refine AW.iconst (v := (0 : Int32)) dX0_keep_26 (by decide) ?_
  refine AW.iconst (v := (4 : Int32)) dX0_keep_27 (by decide) ?_
  obtain ⟨h12, hf⟩ := gd_split hf
  obtain ⟨h13, hf⟩ := gd_split hf
  obtain ⟨h14, hf⟩ := gd_split hf
  obtain ⟨h15, hf⟩ := gd_split hf
  refine TW.copyI cpX0_35 h12 h13 (by decide) (by decide) (by decide) h14 h15 (Nat.le_of_ble_eq_true rfl) dX0_keep_28 ?_
  show AW G mX0_keep (d + 1) 0 0 K 31 [some (.ref p0), some (.ref p1)] [] ((up (up I a4 (cpy (I a2) (I a4) (tn (0 : Int32)) (tn (0 : Int32)) (tn (I p1 0)))) a11 (cpy ((up I a4 (cpy (I a2) (I a4) (tn (0 : Int32)) (tn (0 : Int32)) (tn (I p1 0)))) a10) ((up I a4 (cpy (I a2) (I a4) (tn (0 : Int32)) (tn (0 : Int32)) (tn (I p1 0)))) a11) (tn (0 : Int32)) (tn (0 : Int32)) (tn (4 : Int32)))), J, ρ)
  refine AW.aload_n dX0_keep_31 rfl ?_
  obtain ⟨a16, ga16, hf⟩ := ob_split hf
  refine TW.getR (v := .ref a16) fX0_21_0 h1 (rf_some ga16) dX0_keep_32 ?_
  refine AW.iconst (v := (0 : Int32)) dX0_keep_35 (by decide) ?_
  refine AW.aload_n dX0_keep_36 rfl ?_
  obtain ⟨a17, ga17, hf⟩ := ob_split hf
  refine TW.getR (v := .ref a17) fX0_21_0 h3 (rf_some ga17) dX0_keep_37 ?_
  refine AW.iconst (v := (0 : Int32)) dX0_keep_40 (by decide) ?_
  refine AW.bipush (v := (12 : Int32)) dX0_keep_41 (by decide) ?_
  obtain ⟨h18, hf⟩ := gd_split hf
  obtain ⟨h19, hf⟩ := gd_split hf
  obtain ⟨h20, hf⟩ := gd_split hf
  obtain ⟨h21, hf⟩ := gd_split hf
  refine TW.copyI cpX0_35 h18 h19 (by decide) (by decide) (by decide) h20 h21 (Nat.le_of_ble_eq_true rfl) dX0_keep_43 ?_
  show AW G mX0_keep (d + 1) 0 0 K 46 [some (.ref p0), some (.ref p1)] [] ((up (up (up I a4 (cpy (I a2) (I a4) (tn (0 : Int32)) (tn (0 : Int32)) (tn (I p1 0)))) a11 (cpy ((up I a4 (cpy (I a2) (I a4) (tn (0 : Int32)) (tn (0 : Int32)) (tn (I p1 0)))) a10) ((up I a4 (cpy (I a2) (I a4) (tn (0 : Int32)) (tn (0 : Int32)) (tn (I p1 0)))) a11) (tn (0 : Int32)) (tn (0 : Int32)) (tn (4 : Int32)))) a17 (cpy ((up (up I a4 (cpy (I a2) (I a4) (tn (0 : Int32)) (tn (0 : Int32)) (tn (I p1 0)))) a11 (cpy ((up I a4 (cpy (I a2) (I a4) (tn (0 : Int32)) (tn (0 : Int32)) (tn (I p1 0)))) a10) ((up I a4 (cpy (I a2) (I a4) (tn (0 : Int32)) (tn (0 : Int32)) (tn (I p1 0)))) a11) (tn (0 : Int32)) (tn (0 : Int32)) (tn (4 : Int32)))) a16) ((up (up I a4 (cpy (I a2) (I a4) (tn (0 : Int32)) (tn (0 : Int32)) (tn (I p1 0)))) a11 (cpy ((up I a4 (cpy (I a2) (I a4) (tn (0 : Int32)) (tn (0 : Int32)) (tn (I p1 0)))) a10) ((up I a4 (cpy (I a2) (I a4) (tn (0 : Int32)) (tn (0 : Int32)) (tn (I p1 0)))) a11) (tn (0 : Int32)) (tn (0 : Int32)) (tn (4 : Int32)))) a17) (tn (0 : Int32)) (tn (0 : Int32)) (tn (12 : Int32)))), J, ρ)
  refine AW.aload_n dX0_keep_46 rfl ?_
  obtain ⟨a22, ga22, hf⟩ := ob_split hf
  refine TW.getR (v := .ref a22) fX0_24_0 h1 (rf_some ga22) dX0_keep_47 ?_
  refine AW.iconst (v := (0 : Int32)) dX0_keep_50 (by decide) ?_
  refine AW.aload_n dX0_keep_51 rfl ?_
  obtain ⟨a23, ga23, hf⟩ := ob_split hf
  refine TW.getR (v := .ref a23) fX0_24_0 h3 (rf_some ga23) dX0_keep_52 ?_
  refine AW.iconst (v := (0 : Int32)) dX0_keep_55 (by decide) ?_
  refine AW.bipush (v := (12 : Int32)) dX0_keep_56 (by decide) ?_
  obtain ⟨h24, hf⟩ := gd_split hf
  obtain ⟨h25, hf⟩ := gd_split hf
  obtain ⟨h26, hf⟩ := gd_split hf
  obtain ⟨h27, hf⟩ := gd_split hf
  refine TW.copyI cpX0_35 h24 h25 (by decide) (by decide) (by decide) h26 h27 (Nat.le_of_ble_eq_true rfl) dX0_keep_58 ?_
  show AW G mX0_keep (d + 1) 0 0 K 61 [some (.ref p0), some (.ref p1)] [] ((up (up (up (up I a4 (cpy (I a2) (I a4) (tn (0 : Int32)) (tn (0 : Int32)) (tn (I p1 0)))) a11 (cpy ((up I a4 (cpy (I a2) (I a4) (tn (0 : Int32)) (tn (0 : Int32)) (tn (I p1 0)))) a10) ((up I a4 (cpy (I a2) (I a4) (tn (0 : Int32)) (tn (0 : Int32)) (tn (I p1 0)))) a11) (tn (0 : Int32)) (tn (0 : Int32)) (tn (4 : Int32)))) a17 (cpy ((up (up I a4 (cpy (I a2) (I a4) (tn (0 : Int32)) (tn (0 : Int32)) (tn (I p1 0)))) a11 (cpy ((up I a4 (cpy (I a2) (I a4) (tn (0 : Int32)) (tn (0 : Int32)) (tn (I p1 0)))) a10) ((up I a4 (cpy (I a2) (I a4) (tn (0 : Int32)) (tn (0 : Int32)) (tn (I p1 0)))) a11) (tn (0 : Int32)) (tn (0 : Int32)) (tn (4 : Int32)))) a16) ((up (up I a4 (cpy (I a2) (I a4) (tn (0 : Int32)) (tn (0 : Int32)) (tn (I p1 0)))) a11 (cpy ((up I a4 (cpy (I a2) (I a4) (tn (0 : Int32)) (tn (0 : Int32)) (tn (I p1 0)))) a10) ((up I a4 (cpy (I a2) (I a4) (tn (0 : Int32)) (tn (0 : Int32)) (tn (I p1 0)))) a11) (tn (0 : Int32)) (tn (0 : Int32)) (tn (4 : Int32)))) a17) (tn (0 : Int32)) (tn (0 : Int32)) (tn (12 : Int32)))) a23 (cpy ((up (up (up I a4 (cpy (I a2) (I a4) (tn (0 : Int32)) (tn (0 : Int32)) (tn (I p1 0)))) a11 (cpy ((up I a4 (cpy (I a2) (I a4) (tn (0 : Int32)) (tn (0 : Int32)) (tn (I p1 0)))) a10) ((up I a4 (cpy (I a2) (I a4) (tn (0 : Int32)) (tn (0 : Int32)) (tn (I p1 0)))) a11) (tn (0 : Int32)) (tn (0 : Int32)) (tn (4 : Int32)))) a17 (cpy ((up (up I a4 (cpy (I a2) (I a4) (tn (0 : Int32)) (tn (0 : Int32)) (tn (I p1 0)))) a11 (cpy ((up I a4 (cpy (I a2) (I a4) (tn (0 : Int32)) (tn (0 : Int32)) (tn (I p1 0)))) a10) ((up I a4 (cpy (I a2) (I a4) (tn (0 : Int32)) (tn (0 : Int32)) (tn (I p1 0)))) a11) (tn (0 : Int32)) (tn (0 : Int32)) (tn (4 : Int32)))) a16) ((up (up I a4 (cpy (I a2) (I a4) (tn (0 : Int32)) (tn (0 : Int32)) (tn (I p1 0)))) a11 (cpy ((up I a4 (cpy (I a2) (I a4) (tn (0 : Int32)) (tn (0 : Int32)) (tn (I p1 0)))) a10) ((up I a4 (cpy (I a2) (I a4) (tn (0 : Int32)) (tn (0 : Int32)) (tn (I p1 0)))) a11) (tn (0 : Int32)) (tn (0 : Int32)) (tn (4 : Int32)))) a17) (tn (0 : Int32)) (tn (0 : Int32)) (tn (12 : Int32)))) a22) ((up (up (up I a4 (cpy (I a2) (I a4) (tn (0 : Int32)) (tn (0 : Int32)) (tn (I p1 0)))) a11 (cpy ((up I a4 (cpy (I a2) (I a4) (tn (0 : Int32)) (tn (0 : Int32)) (tn (I p1 0)))) a10) ((up I a4 (cpy (I a2) (I a4) (tn (0 : Int32)) (tn (0 : Int32)) (tn (I p1 0)))) a11) (tn (0 : Int32)) (tn (0 : Int32)) (tn (4 : Int32)))) a17 (cpy ((up (up I a4 (cpy (I a2) (I a4) (tn (0 : Int32)) (tn (0 : Int32)) (tn (I p1 0)))) a11 (cpy ((up I a4 (cpy (I a2) (I a4) (tn (0 : Int32)) (tn (0 : Int32)) (tn (I p1 0)))) a10) ((up I a4 (cpy (I a2) (I a4) (tn (0 : Int32)) (tn (0 : Int32)) (tn (I p1 0)))) a11) (tn (0 : Int32)) (tn (0 : Int32)) (tn (4 : Int32)))) a16) ((up (up I a4 (cpy (I a2) (I a4) (tn (0 : Int32)) (tn (0 : Int32)) (tn (I p1 0)))) a11 (cpy ((up I a4 (cpy (I a2) (I a4) (tn (0 : Int32)) (tn (0 : Int32)) (tn (I p1 0)))) a10) ((up I a4 (cpy (I a2) (I a4) (tn (0 : Int32)) (tn (0 : Int32)) (tn (I p1 0)))) a11) (tn (0 : Int32)) (tn (0 : Int32)) (tn (4 : Int32)))) a17) (tn (0 : Int32)) (tn (0 : Int32)) (tn (12 : Int32)))) a23) (tn (0 : Int32)) (tn (0 : Int32)) (tn (12 : Int32)))), J, ρ)
  refine AW.aload_n dX0_keep_61 rfl ?_
  refine AW.aload_n dX0_keep_62 rfl ?_
  obtain ⟨a28, ga28, hf⟩ := ob_split hf
  refine TW.getR (v := .ref a28) fX0_27_0 h1 (rf_some ga28) dX0_keep_63 ?_
  refine TW.putR (o := (some a28)) fX0_27_0 h3 rfl (Or.inl rfl) dX0_keep_66 ?_
  have hs := Sh.putB hs h3 (some a28)
  show AW G mX0_keep (d + 1) 0 0 K 69 [some (.ref p0), some (.ref p1)] [] ((up (up (up (up I a4 (cpy (I a2) (I a4) (tn (0 : Int32)) (tn (0 : Int32)) (tn (I p1 0)))) a11 (cpy ((up I a4 (cpy (I a2) (I a4) (tn (0 : Int32)) (tn (0 : Int32)) (tn (I p1 0)))) a10) ((up I a4 (cpy (I a2) (I a4) (tn (0 : Int32)) (tn (0 : Int32)) (tn (I p1 0)))) a11) (tn (0 : Int32)) (tn (0 : Int32)) (tn (4 : Int32)))) a17 (cpy ((up (up I a4 (cpy (I a2) (I a4) (tn (0 : Int32)) (tn (0 : Int32)) (tn (I p1 0)))) a11 (cpy ((up I a4 (cpy (I a2) (I a4) (tn (0 : Int32)) (tn (0 : Int32)) (tn (I p1 0)))) a10) ((up I a4 (cpy (I a2) (I a4) (tn (0 : Int32)) (tn (0 : Int32)) (tn (I p1 0)))) a11) (tn (0 : Int32)) (tn (0 : Int32)) (tn (4 : Int32)))) a16) ((up (up I a4 (cpy (I a2) (I a4) (tn (0 : Int32)) (tn (0 : Int32)) (tn (I p1 0)))) a11 (cpy ((up I a4 (cpy (I a2) (I a4) (tn (0 : Int32)) (tn (0 : Int32)) (tn (I p1 0)))) a10) ((up I a4 (cpy (I a2) (I a4) (tn (0 : Int32)) (tn (0 : Int32)) (tn (I p1 0)))) a11) (tn (0 : Int32)) (tn (0 : Int32)) (tn (4 : Int32)))) a17) (tn (0 : Int32)) (tn (0 : Int32)) (tn (12 : Int32)))) a23 (cpy ((up (up (up I a4 (cpy (I a2) (I a4) (tn (0 : Int32)) (tn (0 : Int32)) (tn (I p1 0)))) a11 (cpy ((up I a4 (cpy (I a2) (I a4) (tn (0 : Int32)) (tn (0 : Int32)) (tn (I p1 0)))) a10) ((up I a4 (cpy (I a2) (I a4) (tn (0 : Int32)) (tn (0 : Int32)) (tn (I p1 0)))) a11) (tn (0 : Int32)) (tn (0 : Int32)) (tn (4 : Int32)))) a17 (cpy ((up (up I a4 (cpy (I a2) (I a4) (tn (0 : Int32)) (tn (0 : Int32)) (tn (I p1 0)))) a11 (cpy ((up I a4 (cpy (I a2) (I a4) (tn (0 : Int32)) (tn (0 : Int32)) (tn (I p1 0)))) a10) ((up I a4 (cpy (I a2) (I a4) (tn (0 : Int32)) (tn (0 : Int32)) (tn (I p1 0)))) a11) (tn (0 : Int32)) (tn (0 : Int32)) (tn (4 : Int32)))) a16) ((up (up I a4 (cpy (I a2) (I a4) (tn (0 : Int32)) (tn (0 : Int32)) (tn (I p1 0)))) a11 (cpy ((up I a4 (cpy (I a2) (I a4) (tn (0 : Int32)) (tn (0 : Int32)) (tn (I p1 0)))) a10) ((up I a4 (cpy (I a2) (I a4) (tn (0 : Int32)) (tn (0 : Int32)) (tn (I p1 0)))) a11) (tn (0 : Int32)) (tn (0 : Int32)) (tn (4 : Int32)))) a17) (tn (0 : Int32)) (tn (0 : Int32)) (tn (12 : Int32)))) a22) ((up (up (up I a4 (cpy (I a2) (I a4) (tn (0 : Int32)) (tn (0 : Int32)) (tn (I p1 0)))) a11 (cpy ((up I a4 (cpy (I a2) (I a4) (tn (0 : Int32)) (tn (0 : Int32)) (tn (I p1 0)))) a10) ((up I a4 (cpy (I a2) (I a4) (tn (0 : Int32)) (tn (0 : Int32)) (tn (I p1 0)))) a11) (tn (0 : Int32)) (tn (0 : Int32)) (tn (4 : Int32)))) a17 (cpy ((up (up I a4 (cpy (I a2) (I a4) (tn (0 : Int32)) (tn (0 : Int32)) (tn (I p1 0)))) a11 (cpy ((up I a4 (cpy (I a2) (I a4) (tn (0 : Int32)) (tn (0 : Int32)) (tn (I p1 0)))) a10) ((up I a4 (cpy (I a2) (I a4) (tn (0 : Int32)) (tn (0 : Int32)) (tn (I p1 0)))) a11) (tn (0 : Int32)) (tn (0 : Int32)) (tn (4 : Int32)))) a16) ((up (up I a4 (cpy (I a2) (I a4) (tn (0 : Int32)) (tn (0 : Int32)) (tn (I p1 0)))) a11 (cpy ((up I a4 (cpy (I a2) (I a4) (tn (0 : Int32)) (tn (0 : Int32)) (tn (I p1 0)))) a10) ((up I a4 (cpy (I a2) (I a4) (tn (0 : Int32)) (tn (0 : Int32)) (tn (I p1 0)))) a11) (tn (0 : Int32)) (tn (0 : Int32)) (tn (4 : Int32)))) a17) (tn (0 : Int32)) (tn (0 : Int32)) (tn (12 : Int32)))) a23) (tn (0 : Int32)) (tn (0 : Int32)) (tn (12 : Int32)))), J, (u2 ρ.1 p0 6 (some a28), ρ.2))
  obtain rfl := Option.some.inj hf
  exact AW.vret (st := []) dX0_keep_69 rfl ((show Sh (u2 ρ.1 p0 6 (some a28), ρ.2) → _ from hK) hs)
def f_X6_share (N : Nat) (ρ : Rh) (I : Nat → Nat → Int32) (J : Nat → Nat → Int64) (p0 : Nat) (p2 : Int32) : Option (Int32) := (if ((I 48 14) ≤ (0 : Int32)) then some (0 : Int32) else (if ¬ (I 48 14) = 0 then some ((I 48 9) / (I 48 14)) else none))
theorem c_X6_share {G : Gd} {d N : Nat} {K : Ah → Option Value → Prop} {ρ : Rh} {I : Nat → Nat → Int32} {J : Nat → Nat → Int64} {p0 : Nat} {p2 : Int32} {o : Int32} (hs : Sh ρ) (hf : f_X6_share N ρ I J p0 p2 = some o) (hK : K (I, J, ρ) (some (.int o))) : AM G d 0 0 mX6_share [.ref p0, .ref 48, .int p2] (I, J, ρ) K := by
  unfold f_X6_share at hf
  refine AM.intro okX6_share.2.2.2.1 (Nat.le_of_ble_eq_true rfl) [some (.ref p0), some (.ref 48), some (.int p2)] rfl ?_
  refine AW.aload_n dX6_share_0 rfl ?_
  refine TW.getI (x := (I 48 14)) fX6_16_10 hs.k48 rfl dX6_share_1 ?_
  refine AW.if_le (tgt := 19) dX6_share_4 (by decide) (fun hc => ?_) (fun hc => ?_)
  · have hf := (if_pos hc).symm.trans hf
    refine AW.iconst (v := (0 : Int32)) dX6_share_19 (by decide) ?_
    obtain rfl := Option.some.inj hf
    exact AW.iret (st := []) dX6_share_20 rfl hK
  · have hf := (if_neg hc).symm.trans hf
    refine AW.aload_n dX6_share_7 rfl ?_
    refine TW.getI (x := (I 48 9)) fX6_21_10 hs.k48 rfl dX6_share_8 ?_
    refine AW.aload_n dX6_share_11 rfl ?_
    refine TW.getI (x := (I 48 14)) fX6_16_10 hs.k48 rfl dX6_share_12 ?_
    obtain ⟨h1, hf⟩ := gd_split hf
    refine AW.idiv (hne := h1) dX6_share_15 ?_
    refine AW.goto (tgt := 20) dX6_share_16 (by decide) ?_
    obtain rfl := Option.some.inj hf
    exact AW.iret (st := []) dX6_share_20 rfl hK
def f_X5_share_5 (N : Nat) (ρ : Rh) (I : Nat → Nat → Int32) (J : Nat → Nat → Int64) (p0 : Nat) (p2 : Int32) : Option (Int32) := (if ¬ (p2 < 0 ∨ 8 ≤ tn p2) then (((if ((I 44 (tn p2)) ≤ (0 : Int32)) then some (-1 : Int32) else some (1 : Int32)) : Option (Int32)).bind fun j2 => (if ρ.2.1 p0 = (0, 5) then (Option.bind (f_X6_share N ρ I J p0 p2) fun v4 => some (if (0 : Int32) < (v4 + j2) then (v4 + j2) else (0 : Int32))) else none)) else none)
theorem c_X5_share_5 {G : Gd} {d N : Nat} {K : Ah → Option Value → Prop} {ρ : Rh} {I : Nat → Nat → Int32} {J : Nat → Nat → Int64} {p0 : Nat} {p2 : Int32} {o : Int32} (hs : Sh ρ) (hf : f_X5_share_5 N ρ I J p0 p2 = some o) (hK : K (I, J, ρ) (some (.int o))) : AM G (d + 1) 0 0 mX5_share [.ref p0, .ref 48, .int p2] (I, J, ρ) K := by
  unfold f_X5_share_5 at hf
  refine AM.intro okX5_share.2.2.2.1 (Nat.le_of_ble_eq_true rfl) [some (.ref p0), some (.ref 48), some (.int p2), none] rfl ?_
  refine AW.aload_n dX5_share_0 rfl ?_
  refine TW.getR fX5_7_10 hs.k48 (rf_some hs.r48_0) dX5_share_1 ?_
  refine TW.getR fX5_13_0 hs.k42 (rf_some hs.r42_2) dX5_share_4 ?_
  refine AW.iload_n dX5_share_7 rfl ?_
  obtain ⟨h1, hf⟩ := gd_split hf
  refine TW.iald (x := (I 44 (tn p2))) hs.k44 h1 rfl dX5_share_8 ?_
  obtain ⟨j2, gj2, hf⟩ := ob_split hf
  have Kj2 : AW G mX5_share (d + 1) 0 0 K 17 [some (.ref p0), some (.ref 48), some (.int p2), none] [.int j2] (I, J, ρ) := by
    refine AW.istore_n (ls' := [some (.ref p0), some (.ref 48), some (.int p2), some (.int j2)]) dX5_share_17 (Nat.le_of_ble_eq_true rfl) rfl ?_
    refine AW.iconst (v := (0 : Int32)) dX5_share_18 (by decide) ?_
    refine AW.aload_n dX5_share_19 rfl ?_
    refine AW.aload_n dX5_share_20 rfl ?_
    refine AW.iload_n dX5_share_21 rfl ?_
    obtain ⟨h3, hf⟩ := gd_split hf
    obtain ⟨v4, gv4, hf⟩ := ob_split hf
    refine TW.invsu (as := [.ref 48, .int p2]) (rest := [.int (0 : Int32)]) suX5_19 h3 rfl dX5_share_22 rfl rfl (Nat.le_of_ble_eq_true rfl) (c_X6_share hs gv4 ?_)
    show AW G mX5_share (d + 1) 0 0 K 25 [some (.ref p0), some (.ref 48), some (.int p2), some (.int j2)] [.int v4, .int (0 : Int32)] (I, J, ρ)
    refine AW.iload_n dX5_share_25 rfl ?_
    refine AW.iadd dX5_share_26 ?_
    refine AW.mmax mtX5_23 dX5_share_27 (Nat.le_of_ble_eq_true rfl) ?_
    obtain rfl := Option.some.inj hf
    exact AW.iret (st := []) dX5_share_30 rfl hK
  clear hf; have hf := gj2; clear gj2
  refine AW.if_le (tgt := 16) dX5_share_9 (by decide) (fun hc => ?_) (fun hc => ?_)
  · have hf := (if_pos hc).symm.trans hf
    refine AW.iconst (v := (-1 : Int32)) dX5_share_16 (by decide) ?_
    obtain rfl := Option.some.inj hf
    exact AW.weak _ (by exact (And.intro rfl (And.intro rfl (And.intro rfl trivial)))) Kj2
  · have hf := (if_neg hc).symm.trans hf
    refine AW.iconst (v := (1 : Int32)) dX5_share_12 (by decide) ?_
    refine AW.goto (tgt := 17) dX5_share_13 (by decide) ?_
    obtain rfl := Option.some.inj hf
    exact AW.weak _ (by exact (And.intro rfl (And.intro rfl (And.intro rfl trivial)))) Kj2
def f_X5_share_1 (N : Nat) (ρ : Rh) (I : Nat → Nat → Int32) (J : Nat → Nat → Int64) (p0 : Nat) (p2 : Int32) : Option (Int32) := (if ¬ (p2 < 0 ∨ 8 ≤ tn p2) then (((if ((I 44 (tn p2)) ≤ (0 : Int32)) then some (-1 : Int32) else some (1 : Int32)) : Option (Int32)).bind fun j2 => (if ρ.2.1 p0 = (0, 1) then (Option.bind (f_X6_share N ρ I J p0 p2) fun v4 => some (if (0 : Int32) < (v4 + j2) then (v4 + j2) else (0 : Int32))) else none)) else none)
theorem c_X5_share_1 {G : Gd} {d N : Nat} {K : Ah → Option Value → Prop} {ρ : Rh} {I : Nat → Nat → Int32} {J : Nat → Nat → Int64} {p0 : Nat} {p2 : Int32} {o : Int32} (hs : Sh ρ) (hf : f_X5_share_1 N ρ I J p0 p2 = some o) (hK : K (I, J, ρ) (some (.int o))) : AM G (d + 1) 0 0 mX5_share [.ref p0, .ref 48, .int p2] (I, J, ρ) K := by
  unfold f_X5_share_1 at hf
  refine AM.intro okX5_share.2.2.2.1 (Nat.le_of_ble_eq_true rfl) [some (.ref p0), some (.ref 48), some (.int p2), none] rfl ?_
  refine AW.aload_n dX5_share_0 rfl ?_
  refine TW.getR fX5_7_10 hs.k48 (rf_some hs.r48_0) dX5_share_1 ?_
  refine TW.getR fX5_13_0 hs.k42 (rf_some hs.r42_2) dX5_share_4 ?_
  refine AW.iload_n dX5_share_7 rfl ?_
  obtain ⟨h1, hf⟩ := gd_split hf
  refine TW.iald (x := (I 44 (tn p2))) hs.k44 h1 rfl dX5_share_8 ?_
  obtain ⟨j2, gj2, hf⟩ := ob_split hf
  have Kj2 : AW G mX5_share (d + 1) 0 0 K 17 [some (.ref p0), some (.ref 48), some (.int p2), none] [.int j2] (I, J, ρ) := by
    refine AW.istore_n (ls' := [some (.ref p0), some (.ref 48), some (.int p2), some (.int j2)]) dX5_share_17 (Nat.le_of_ble_eq_true rfl) rfl ?_
    refine AW.iconst (v := (0 : Int32)) dX5_share_18 (by decide) ?_
    refine AW.aload_n dX5_share_19 rfl ?_
    refine AW.aload_n dX5_share_20 rfl ?_
    refine AW.iload_n dX5_share_21 rfl ?_
    obtain ⟨h3, hf⟩ := gd_split hf
    obtain ⟨v4, gv4, hf⟩ := ob_split hf
    refine TW.invsu (as := [.ref 48, .int p2]) (rest := [.int (0 : Int32)]) suX5_19 h3 rfl dX5_share_22 rfl rfl (Nat.le_of_ble_eq_true rfl) (c_X6_share hs gv4 ?_)
    show AW G mX5_share (d + 1) 0 0 K 25 [some (.ref p0), some (.ref 48), some (.int p2), some (.int j2)] [.int v4, .int (0 : Int32)] (I, J, ρ)
    refine AW.iload_n dX5_share_25 rfl ?_
    refine AW.iadd dX5_share_26 ?_
    refine AW.mmax mtX5_23 dX5_share_27 (Nat.le_of_ble_eq_true rfl) ?_
    obtain rfl := Option.some.inj hf
    exact AW.iret (st := []) dX5_share_30 rfl hK
  clear hf; have hf := gj2; clear gj2
  refine AW.if_le (tgt := 16) dX5_share_9 (by decide) (fun hc => ?_) (fun hc => ?_)
  · have hf := (if_pos hc).symm.trans hf
    refine AW.iconst (v := (-1 : Int32)) dX5_share_16 (by decide) ?_
    obtain rfl := Option.some.inj hf
    exact AW.weak _ (by exact (And.intro rfl (And.intro rfl (And.intro rfl trivial)))) Kj2
  · have hf := (if_neg hc).symm.trans hf
    refine AW.iconst (v := (1 : Int32)) dX5_share_12 (by decide) ?_
    refine AW.goto (tgt := 17) dX5_share_13 (by decide) ?_
    obtain rfl := Option.some.inj hf
    exact AW.weak _ (by exact (And.intro rfl (And.intro rfl (And.intro rfl trivial)))) Kj2
def f_X1_share (N : Nat) (ρ : Rh) (I : Nat → Nat → Int32) (J : Nat → Nat → Int64) (p0 : Nat) (p2 : Int32) : Option (Int32) := (if ρ.2.1 p0 = (0, 1) then (Option.bind (f_X5_share_1 N ρ I J p0 p2) fun v2 => (if ((I 48 13) < (I p0 1)) then some v2 else some (v2 / (2 : Int32)))) else none)
theorem c_X1_share {G : Gd} {d N : Nat} {K : Ah → Option Value → Prop} {ρ : Rh} {I : Nat → Nat → Int32} {J : Nat → Nat → Int64} {p0 : Nat} {p2 : Int32} {o : Int32} (hs : Sh ρ) (hf : f_X1_share N ρ I J p0 p2 = some o) (hK : K (I, J, ρ) (some (.int o))) : AM G (d + 2) 0 0 mX1_share [.ref p0, .ref 48, .int p2] (I, J, ρ) K := by
  unfold f_X1_share at hf
  refine AM.intro okX1_share.2.2.2.1 (Nat.le_of_ble_eq_true rfl) [some (.ref p0), some (.ref 48), some (.int p2), none] rfl ?_
  refine AW.aload_n dX1_share_0 rfl ?_
  refine AW.aload_n dX1_share_1 rfl ?_
  refine AW.iload_n dX1_share_2 rfl ?_
  obtain ⟨h1, hf⟩ := gd_split hf
  obtain ⟨v2, gv2, hf⟩ := ob_split hf
  refine TW.invsu (as := [.ref 48, .int p2]) (rest := []) suX1_7 h1 rfl dX1_share_3 rfl rfl (Nat.le_of_ble_eq_true rfl) (c_X5_share_1 hs gv2 ?_)
  show AW G mX1_share (d + 2) 0 0 K 6 [some (.ref p0), some (.ref 48), some (.int p2), none] [.int v2] (I, J, ρ)
  refine AW.istore_n (ls' := [some (.ref p0), some (.ref 48), some (.int p2), some (.int v2)]) dX1_share_6 (Nat.le_of_ble_eq_true rfl) rfl ?_
  refine AW.aload_n dX1_share_7 rfl ?_
  refine TW.getI (x := (I 48 13)) fX1_11_10 hs.k48 rfl dX1_share_8 ?_
  refine AW.aload_n dX1_share_11 rfl ?_
  refine TW.getI (x := (I p0 1)) fX1_17_1 h1 rfl dX1_share_12 ?_
  refine AW.icmp_lt (tgt := 24) dX1_share_15 (by decide) (fun hc => ?_) (fun hc => ?_)
  · have hf := (if_pos hc).symm.trans hf
    refine AW.iload_n dX1_share_24 rfl ?_
    obtain rfl := Option.some.inj hf
    exact AW.iret (st := []) dX1_share_25 rfl hK
  · have hf := (if_neg hc).symm.trans hf
    refine AW.iload_n dX1_share_18 rfl ?_
    refine AW.iconst (v := (2 : Int32)) dX1_share_19 (by decide) ?_
    refine AW.idiv (hne := (by decide)) dX1_share_20 ?_
    refine AW.goto (tgt := 25) dX1_share_21 (by decide) ?_
    obtain rfl := Option.some.inj hf
    exact AW.iret (st := []) dX1_share_25 rfl hK
def f_X2_alone (N : Nat) (ρ : Rh) (I : Nat → Nat → Int32) (J : Nat → Nat → Int64) (p1 : Int32) (p2 : Int32) : Option (Int32) := (if (p1 = (-7 : Int32)) then some (-p2) else (if (p2 = (0 : Int32)) then some (1 : Int32) else some (0 : Int32)))
theorem c_X2_alone {G : Gd} {d N : Nat} {K : Ah → Option Value → Prop} {ρ : Rh} {I : Nat → Nat → Int32} {J : Nat → Nat → Int64} {p1 : Int32} {p2 : Int32} {o : Int32} (hs : Sh ρ) (hf : f_X2_alone N ρ I J p1 p2 = some o) (hK : K (I, J, ρ) (some (.int o))) : AM G d 0 0 mX2_alone [.int p1, .int p2] (I, J, ρ) K := by
  unfold f_X2_alone at hf
  refine AM.intro okX2_alone.2.2.2.1 (Nat.le_of_ble_eq_true rfl) [some (.int p1), some (.int p2)] rfl ?_
  refine AW.iload_n dX2_alone_0 rfl ?_
  refine AW.bipush (v := (-7 : Int32)) dX2_alone_1 (by decide) ?_
  refine AW.icmp_ne (tgt := 9) dX2_alone_3 (by decide) (fun hc => ?_) (fun hc => ?_)
  · have hf := (if_neg hc).symm.trans hf
    refine AW.iload_n dX2_alone_9 rfl ?_
    refine AW.if_ne (tgt := 17) dX2_alone_10 (by decide) (fun hc => ?_) (fun hc => ?_)
    · have hf := (if_neg hc).symm.trans hf
      refine AW.iconst (v := (0 : Int32)) dX2_alone_17 (by decide) ?_
      obtain rfl := Option.some.inj hf
      exact AW.iret (st := []) dX2_alone_18 rfl hK
    · have hf := (if_pos hc).symm.trans hf
      refine AW.iconst (v := (1 : Int32)) dX2_alone_13 (by decide) ?_
      refine AW.goto (tgt := 18) dX2_alone_14 (by decide) ?_
      obtain rfl := Option.some.inj hf
      exact AW.iret (st := []) dX2_alone_18 rfl hK
  · have hf := (if_pos hc).symm.trans hf
    refine AW.iload_n dX2_alone_6 rfl ?_
    refine AW.ineg dX2_alone_7 ?_
    obtain rfl := Option.some.inj hf
    exact AW.iret (st := []) dX2_alone_8 rfl hK
def f_X2_joined (N : Nat) (ρ : Rh) (I : Nat → Nat → Int32) (J : Nat → Nat → Int64) (p1 : Int32) (p2 : Int32) (p3 : Int32) : Option (Int32) := (if p1 = (-14 : Int32) then some (p2 - p3) else (if p1 = (-13 : Int32) then some (p2 + p3) else (if p1 = (-12 : Int32) then (if (p2 = p3) then some (1 : Int32) else some (0 : Int32)) else (if p1 = (-11 : Int32) then (if (p3 ≤ p2) then some (0 : Int32) else some (1 : Int32)) else (if p1 = (-10 : Int32) then (if (p2 = (0 : Int32)) then some (0 : Int32) else (if (p3 = (0 : Int32)) then some (0 : Int32) else some (1 : Int32))) else (if p1 = (-9 : Int32) then (if (p2 = (0 : Int32)) then (if (p3 = (0 : Int32)) then some (0 : Int32) else some (1 : Int32)) else some (1 : Int32)) else some (p2 * p3)))))))
theorem c_X2_joined {G : Gd} {d N : Nat} {K : Ah → Option Value → Prop} {ρ : Rh} {I : Nat → Nat → Int32} {J : Nat → Nat → Int64} {p1 : Int32} {p2 : Int32} {p3 : Int32} {o : Int32} (hs : Sh ρ) (hf : f_X2_joined N ρ I J p1 p2 p3 = some o) (hK : K (I, J, ρ) (some (.int o))) : AM G d 0 0 mX2_joined [.int p1, .int p2, .int p3] (I, J, ρ) K := by
  unfold f_X2_joined at hf
  refine AM.intro okX2_joined.2.2.2.1 (Nat.le_of_ble_eq_true rfl) [some (.int p1), some (.int p2), some (.int p3)] rfl ?_
  refine AW.iload_n dX2_joined_0 rfl ?_
  by_cases hcm14 : p1 = (-14 : Int32)
  · have hf := (if_pos hcm14).symm.trans hf
    refine AW.swIn (tgt := 94) dX2_joined_1 (by rw [hcm14]; decide) (by rw [hcm14]; decide) (by rw [hcm14]; rfl) (by decide) ?_
    refine AW.iload_n dX2_joined_94 rfl ?_
    refine AW.iload_n dX2_joined_95 rfl ?_
    refine AW.isub dX2_joined_96 ?_
    obtain rfl := Option.some.inj hf
    exact AW.iret (st := []) dX2_joined_97 rfl hK
  have hf := (if_neg hcm14).symm.trans hf
  by_cases hcm13 : p1 = (-13 : Int32)
  · have hf := (if_pos hcm13).symm.trans hf
    refine AW.swIn (tgt := 90) dX2_joined_1 (by rw [hcm13]; decide) (by rw [hcm13]; decide) (by rw [hcm13]; rfl) (by decide) ?_
    refine AW.iload_n dX2_joined_90 rfl ?_
    refine AW.iload_n dX2_joined_91 rfl ?_
    refine AW.iadd dX2_joined_92 ?_
    obtain rfl := Option.some.inj hf
    exact AW.iret (st := []) dX2_joined_93 rfl hK
  have hf := (if_neg hcm13).symm.trans hf
  by_cases hcm12 : p1 = (-12 : Int32)
  · have hf := (if_pos hcm12).symm.trans hf
    refine AW.swIn (tgt := 79) dX2_joined_1 (by rw [hcm12]; decide) (by rw [hcm12]; decide) (by rw [hcm12]; rfl) (by decide) ?_
    refine AW.iload_n dX2_joined_79 rfl ?_
    refine AW.iload_n dX2_joined_80 rfl ?_
    refine AW.icmp_ne (tgt := 88) dX2_joined_81 (by decide) (fun hc => ?_) (fun hc => ?_)
    · have hf := (if_neg hc).symm.trans hf
      refine AW.iconst (v := (0 : Int32)) dX2_joined_88 (by decide) ?_
      obtain rfl := Option.some.inj hf
      exact AW.iret (st := []) dX2_joined_89 rfl hK
    · have hf := (if_pos hc).symm.trans hf
      refine AW.iconst (v := (1 : Int32)) dX2_joined_84 (by decide) ?_
      refine AW.goto (tgt := 89) dX2_joined_85 (by decide) ?_
      obtain rfl := Option.some.inj hf
      exact AW.iret (st := []) dX2_joined_89 rfl hK
  have hf := (if_neg hcm12).symm.trans hf
  by_cases hcm11 : p1 = (-11 : Int32)
  · have hf := (if_pos hcm11).symm.trans hf
    refine AW.swIn (tgt := 68) dX2_joined_1 (by rw [hcm11]; decide) (by rw [hcm11]; decide) (by rw [hcm11]; rfl) (by decide) ?_
    refine AW.iload_n dX2_joined_68 rfl ?_
    refine AW.iload_n dX2_joined_69 rfl ?_
    refine AW.icmp_ge (tgt := 77) dX2_joined_70 (by decide) (fun hc => ?_) (fun hc => ?_)
    · have hf := (if_pos hc).symm.trans hf
      refine AW.iconst (v := (0 : Int32)) dX2_joined_77 (by decide) ?_
      obtain rfl := Option.some.inj hf
      exact AW.iret (st := []) dX2_joined_78 rfl hK
    · have hf := (if_neg hc).symm.trans hf
      refine AW.iconst (v := (1 : Int32)) dX2_joined_73 (by decide) ?_
      refine AW.goto (tgt := 78) dX2_joined_74 (by decide) ?_
      obtain rfl := Option.some.inj hf
      exact AW.iret (st := []) dX2_joined_78 rfl hK
  have hf := (if_neg hcm11).symm.trans hf
  by_cases hcm10 : p1 = (-10 : Int32)
  · have hf := (if_pos hcm10).symm.trans hf
    refine AW.swIn (tgt := 54) dX2_joined_1 (by rw [hcm10]; decide) (by rw [hcm10]; decide) (by rw [hcm10]; rfl) (by decide) ?_
    refine AW.iload_n dX2_joined_54 rfl ?_
    refine AW.if_eq (tgt := 66) dX2_joined_55 (by decide) (fun hc => ?_) (fun hc => ?_)
    · have hf := (if_pos hc).symm.trans hf
      refine AW.iconst (v := (0 : Int32)) dX2_joined_66 (by decide) ?_
      obtain rfl := Option.some.inj hf
      exact AW.iret (st := []) dX2_joined_67 rfl hK
    · have hf := (if_neg hc).symm.trans hf
      refine AW.iload_n dX2_joined_58 rfl ?_
      refine AW.if_eq (tgt := 66) dX2_joined_59 (by decide) (fun hc => ?_) (fun hc => ?_)
      · have hf := (if_pos hc).symm.trans hf
        refine AW.iconst (v := (0 : Int32)) dX2_joined_66 (by decide) ?_
        obtain rfl := Option.some.inj hf
        exact AW.iret (st := []) dX2_joined_67 rfl hK
      · have hf := (if_neg hc).symm.trans hf
        refine AW.iconst (v := (1 : Int32)) dX2_joined_62 (by decide) ?_
        refine AW.goto (tgt := 67) dX2_joined_63 (by decide) ?_
        obtain rfl := Option.some.inj hf
        exact AW.iret (st := []) dX2_joined_67 rfl hK
  have hf := (if_neg hcm10).symm.trans hf
  by_cases hcm9 : p1 = (-9 : Int32)
  · have hf := (if_pos hcm9).symm.trans hf
    refine AW.swIn (tgt := 40) dX2_joined_1 (by rw [hcm9]; decide) (by rw [hcm9]; decide) (by rw [hcm9]; rfl) (by decide) ?_
    refine AW.iload_n dX2_joined_40 rfl ?_
    refine AW.if_ne (tgt := 48) dX2_joined_41 (by decide) (fun hc => ?_) (fun hc => ?_)
    · have hf := (if_neg hc).symm.trans hf
      refine AW.iconst (v := (1 : Int32)) dX2_joined_48 (by decide) ?_
      refine AW.goto (tgt := 53) dX2_joined_49 (by decide) ?_
      obtain rfl := Option.some.inj hf
      exact AW.iret (st := []) dX2_joined_53 rfl hK
    · have hf := (if_pos hc).symm.trans hf
      refine AW.iload_n dX2_joined_44 rfl ?_
      refine AW.if_eq (tgt := 52) dX2_joined_45 (by decide) (fun hc => ?_) (fun hc => ?_)
      · have hf := (if_pos hc).symm.trans hf
        refine AW.iconst (v := (0 : Int32)) dX2_joined_52 (by decide) ?_
        obtain rfl := Option.some.inj hf
        exact AW.iret (st := []) dX2_joined_53 rfl hK
      · have hf := (if_neg hc).symm.trans hf
        refine AW.iconst (v := (1 : Int32)) dX2_joined_48 (by decide) ?_
        refine AW.goto (tgt := 53) dX2_joined_49 (by decide) ?_
        obtain rfl := Option.some.inj hf
        exact AW.iret (st := []) dX2_joined_53 rfl hK
  have hf := (if_neg hcm9).symm.trans hf
  have KD : AW G mX2_joined d 0 0 K 98 [some (.int p1), some (.int p2), some (.int p3)] [] (I, J, ρ) := by
    refine AW.iload_n dX2_joined_98 rfl ?_
    refine AW.iload_n dX2_joined_99 rfl ?_
    refine AW.imul dX2_joined_100 ?_
    obtain rfl := Option.some.inj hf
    exact AW.iret (st := []) dX2_joined_101 rfl hK
  have hcm14 : ¬ (p1).toInt = -14 := fun q => hcm14 (Int32.toInt_inj.mp q)
  have hcm13 : ¬ (p1).toInt = -13 := fun q => hcm13 (Int32.toInt_inj.mp q)
  have hcm12 : ¬ (p1).toInt = -12 := fun q => hcm12 (Int32.toInt_inj.mp q)
  have hcm11 : ¬ (p1).toInt = -11 := fun q => hcm11 (Int32.toInt_inj.mp q)
  have hcm10 : ¬ (p1).toInt = -10 := fun q => hcm10 (Int32.toInt_inj.mp q)
  have hcm9 : ¬ (p1).toInt = -9 := fun q => hcm9 (Int32.toInt_inj.mp q)
  exact AW.swOut dX2_joined_1 (by omega) (by decide) KD
def f_X2_value_6 (N : Nat) (J : Nat → Nat → Int64) (ρ : Rh) (a2 : Nat) (p2 : Int32) : Nat → (Nat → Nat → Int32) → Int32 → Int32 → Option (((Nat → Nat → Int32) × Int32) ⊕ ((Nat → Nat → Int32) × Int32))
  | 0, _, _, _ => none
  | n + 1, I1, i3, i4 => (if (p2 ≤ i4) then some (Sum.inr (I1, i3)) else (if ρ.2.1 a2 = (0, 2) then (Option.bind (ρ.1 a2 1) fun a6 => (if ρ.2.1 a6 = (1, (ρ.2.1 a6).2) then (if ((Int32.ofNat (ρ.2.1 a6).2) ≤ i4) then some (Sum.inr (I1, i3)) else (Option.bind (ρ.1 a2 1) fun a8 => (if ρ.2.1 a8 = (1, (ρ.2.1 a8).2) then (if ¬ (i4 < 0 ∨ (ρ.2.1 a8).2 ≤ tn i4) then (if ((I1 a8 (tn i4)) < (-6 : Int32)) then (if ((I1 a8 (tn i4)) = (-7 : Int32)) then (if ((1 : Int32) ≤ i3) then (if ¬ ((i3 - (1 : Int32)) < 0 ∨ 160 ≤ tn (i3 - (1 : Int32))) then (Option.bind (f_X2_alone N ρ I1 J (I1 a8 (tn i4)) (I1 80 (tn (i3 - (1 : Int32))))) fun v12 => (if ¬ ((i3 - (1 : Int32)) < 0 ∨ 160 ≤ tn (i3 - (1 : Int32))) then f_X2_value_6 N J ρ a2 p2 n (u2 I1 80 (tn (i3 - (1 : Int32))) v12) i3 (i4 + (1 : Int32)) else none)) else none) else some (Sum.inl (I1, (0 : Int32)))) else (if ((I1 a8 (tn i4)) = (-8 : Int32)) then (if ((1 : Int32) ≤ i3) then (if ¬ ((i3 - (1 : Int32)) < 0 ∨ 160 ≤ tn (i3 - (1 : Int32))) then (Option.bind (f_X2_alone N ρ I1 J (I1 a8 (tn i4)) (I1 80 (tn (i3 - (1 : Int32))))) fun v19 => (if ¬ ((i3 - (1 : Int32)) < 0 ∨ 160 ≤ tn (i3 - (1 : Int32))) then f_X2_value_6 N J ρ a2 p2 n (u2 I1 80 (tn (i3 - (1 : Int32))) v19) i3 (i4 + (1 : Int32)) else none)) else none) else some (Sum.inl (I1, (0 : Int32)))) else (if ((2 : Int32) ≤ i3) then (if ¬ (((i3 + (-1 : Int32)) - (1 : Int32)) < 0 ∨ 160 ≤ tn ((i3 + (-1 : Int32)) - (1 : Int32))) then (if ¬ ((i3 + (-1 : Int32)) < 0 ∨ 160 ≤ tn (i3 + (-1 : Int32))) then (Option.bind (f_X2_joined N ρ I1 J (I1 a8 (tn i4)) (I1 80 (tn ((i3 + (-1 : Int32)) - (1 : Int32)))) (I1 80 (tn (i3 + (-1 : Int32))))) fun v16 => (if ¬ (((i3 + (-1 : Int32)) - (1 : Int32)) < 0 ∨ 160 ≤ tn ((i3 + (-1 : Int32)) - (1 : Int32))) then f_X2_value_6 N J ρ a2 p2 n (u2 I1 80 (tn ((i3 + (-1 : Int32)) - (1 : Int32))) v16) (i3 + (-1 : Int32)) (i4 + (1 : Int32)) else none)) else none) else none) else some (Sum.inl (I1, (0 : Int32)))))) else (if (i3 < (160 : Int32)) then (((if ((I1 a8 (tn i4)) < (0 : Int32)) then (if ¬ (((-1 : Int32) - (I1 a8 (tn i4))) < 0 ∨ 6 ≤ tn ((-1 : Int32) - (I1 a8 (tn i4)))) then some (I1 79 (tn ((-1 : Int32) - (I1 a8 (tn i4))))) else none) else some (I1 a8 (tn i4))) : Option (Int32)).bind fun j22 => (if ¬ (i3 < 0 ∨ 160 ≤ tn i3) then f_X2_value_6 N J ρ a2 p2 n (u2 I1 80 (tn i3) j22) (i3 + (1 : Int32)) (i4 + (1 : Int32)) else none)) else some (Sum.inl (I1, (0 : Int32))))) else none) else none))) else none)) else none))
theorem l_X2_value_6 {G : Gd} {d N : Nat} {K : Ah → Option Value → Prop} {J : Nat → Nat → Int64} {ρ : Rh} {a2 : Nat} {p2 : Int32} (hs : Sh ρ) {o : ((Nat → Nat → Int32) × Int32) ⊕ ((Nat → Nat → Int32) × Int32)} : ∀ (n : Nat) (I1 : Nat → Nat → Int32) (i3 : Int32) (i4 : Int32), f_X2_value_6 N J ρ a2 p2 n I1 i3 i4 = some o → scase o (fun r => K (r.1, J, ρ) (some (.int r.2))) (fun o => AW G mX2_value (d + 1) 0 0 K 160 [none, none, none, none, some (.ref 80), some (.int o.2), none, none] [] (o.1, J, ρ)) → AW G mX2_value (d + 1) 0 0 K 6 [some (.ref a2), none, some (.int p2), some (.ref 79), some (.ref 80), some (.int i3), some (.int i4), none] [] (I1, J, ρ) := by
  intro n
  induction n with
  | zero => intro I1 i3 i4 hf hE; rw [f_X2_value_6.eq_1] at hf; cases hf
  | succ n ih =>
    intro I1 i3 i4 hf hE
    rw [f_X2_value_6.eq_2] at hf
    refine AW.iload dX2_value_6 rfl ?_
    refine AW.iload_n dX2_value_8 rfl ?_
    refine AW.icmp_ge (tgt := 160) dX2_value_9 (by decide) (fun hc => ?_) (fun hc => ?_)
    · have hf := (if_pos hc).symm.trans hf
      obtain rfl := Option.some.inj hf
      exact AW.weak _ (by exact (And.intro rfl (And.intro rfl trivial))) hE
    · have hf := (if_neg hc).symm.trans hf
      refine AW.iload dX2_value_12 rfl ?_
      refine AW.aload_n dX2_value_14 rfl ?_
      obtain ⟨h5, hf⟩ := gd_split hf
      obtain ⟨a6, ga6, hf⟩ := ob_split hf
      refine TW.getR (v := .ref a6) fX2_15_2 h5 (rf_some ga6) dX2_value_15 ?_
      obtain ⟨h7, hf⟩ := gd_split hf
      refine TW.alen h7 (by decide) (by decide) rfl dX2_value_18 ?_
      refine AW.icmp_ge (tgt := 160) dX2_value_19 (by decide) (fun hc => ?_) (fun hc => ?_)
      · have hf := (if_pos hc).symm.trans hf
        obtain rfl := Option.some.inj hf
        exact AW.weak _ (by exact (And.intro rfl (And.intro rfl trivial))) hE
      · have hf := (if_neg hc).symm.trans hf
        refine AW.aload_n dX2_value_22 rfl ?_
        obtain ⟨a8, ga8, hf⟩ := ob_split hf
        refine TW.getR (v := .ref a8) fX2_15_2 h5 (rf_some ga8) dX2_value_23 ?_
        refine AW.iload dX2_value_26 rfl ?_
        obtain ⟨h9, hf⟩ := gd_split hf
        obtain ⟨h10, hf⟩ := gd_split hf
        refine TW.iald (x := (I1 a8 (tn i4))) h9 h10 rfl dX2_value_28 ?_
        refine AW.istore (ls' := [some (.ref a2), none, some (.int p2), some (.ref 79), some (.ref 80), some (.int i3), some (.int i4), some (.int (I1 a8 (tn i4)))]) dX2_value_29 (Nat.le_of_ble_eq_true rfl) rfl ?_
        refine AW.iload dX2_value_31 rfl ?_
        refine AW.bipush (v := (-6 : Int32)) dX2_value_33 (by decide) ?_
        refine AW.icmp_lt (tgt := 75) dX2_value_35 (by decide) (fun hc => ?_) (fun hc => ?_)
        · have hf := (if_pos hc).symm.trans hf
          refine AW.iload dX2_value_75 rfl ?_
          refine AW.bipush (v := (-7 : Int32)) dX2_value_77 (by decide) ?_
          refine AW.icmp_eq (tgt := 89) dX2_value_79 (by decide) (fun hc => ?_) (fun hc => ?_)
          · have hf := (if_pos hc).symm.trans hf
            refine AW.iload dX2_value_89 rfl ?_
            refine AW.iconst (v := (1 : Int32)) dX2_value_91 (by decide) ?_
            refine AW.icmp_ge (tgt := 97) dX2_value_92 (by decide) (fun hc => ?_) (fun hc => ?_)
            · have hf := (if_pos hc).symm.trans hf
              refine AW.aload dX2_value_97 rfl ?_
              refine AW.iload dX2_value_99 rfl ?_
              refine AW.iconst (v := (1 : Int32)) dX2_value_101 (by decide) ?_
              refine AW.isub dX2_value_102 ?_
              refine AW.iload dX2_value_103 rfl ?_
              refine AW.aload dX2_value_105 rfl ?_
              refine AW.iload dX2_value_107 rfl ?_
              refine AW.iconst (v := (1 : Int32)) dX2_value_109 (by decide) ?_
              refine AW.isub dX2_value_110 ?_
              obtain ⟨h11, hf⟩ := gd_split hf
              refine TW.iald (x := (I1 80 (tn (i3 - (1 : Int32))))) hs.k80 h11 rfl dX2_value_111 ?_
              obtain ⟨v12, gv12, hf⟩ := ob_split hf
              refine TW.invs (as := [.int (I1 a8 (tn i4)), .int (I1 80 (tn (i3 - (1 : Int32))))]) (rest := [.int (i3 - (1 : Int32)), .ref 80]) stX2_26 dX2_value_112 rfl rfl (Nat.le_of_ble_eq_true rfl) (c_X2_alone hs gv12 ?_)
              show AW G mX2_value (d + 1) 0 0 K 115 [some (.ref a2), none, some (.int p2), some (.ref 79), some (.ref 80), some (.int i3), some (.int i4), some (.int (I1 a8 (tn i4)))] [.int v12, .int (i3 - (1 : Int32)), .ref 80] (I1, J, ρ)
              obtain ⟨h13, hf⟩ := gd_split hf
              refine TW.iast hs.k80 h13 dX2_value_115 ?_
              show AW G mX2_value (d + 1) 0 0 K 116 [some (.ref a2), none, some (.int p2), some (.ref 79), some (.ref 80), some (.int i3), some (.int i4), some (.int (I1 a8 (tn i4)))] [] ((u2 I1 80 (tn (i3 - (1 : Int32))) v12), J, ρ)
              refine AW.goto (tgt := 154) dX2_value_116 (by decide) ?_
              refine AW.iinc (v := (i4 + (1 : Int32))) (ls' := [some (.ref a2), none, some (.int p2), some (.ref 79), some (.ref 80), some (.int i3), some (.int (i4 + (1 : Int32))), some (.int (I1 a8 (tn i4)))]) dX2_value_154 rfl rfl (Nat.le_of_ble_eq_true rfl) rfl ?_
              refine AW.goto (tgt := 6) dX2_value_157 (by decide) ?_
              exact AW.weak _ (by exact (And.intro rfl (And.intro rfl (And.intro rfl (And.intro rfl (And.intro rfl (And.intro rfl trivial))))))) (ih (u2 I1 80 (tn (i3 - (1 : Int32))) v12) i3 (i4 + (1 : Int32)) hf hE)
            · have hf := (if_neg hc).symm.trans hf
              refine AW.iconst (v := (0 : Int32)) dX2_value_95 (by decide) ?_
              obtain rfl := Option.some.inj hf
              exact AW.iret (st := []) dX2_value_96 rfl hE
          · have hf := (if_neg hc).symm.trans hf
            refine AW.iload dX2_value_82 rfl ?_
            refine AW.bipush (v := (-8 : Int32)) dX2_value_84 (by decide) ?_
            refine AW.icmp_ne (tgt := 119) dX2_value_86 (by decide) (fun hc => ?_) (fun hc => ?_)
            · have hf := (if_neg hc).symm.trans hf
              refine AW.iload dX2_value_119 rfl ?_
              refine AW.iconst (v := (2 : Int32)) dX2_value_121 (by decide) ?_
              refine AW.icmp_ge (tgt := 127) dX2_value_122 (by decide) (fun hc => ?_) (fun hc => ?_)
              · have hf := (if_pos hc).symm.trans hf
                refine AW.iinc (v := (i3 + (-1 : Int32))) (ls' := [some (.ref a2), none, some (.int p2), some (.ref 79), some (.ref 80), some (.int (i3 + (-1 : Int32))), some (.int i4), some (.int (I1 a8 (tn i4)))]) dX2_value_127 rfl rfl (Nat.le_of_ble_eq_true rfl) rfl ?_
                refine AW.aload dX2_value_130 rfl ?_
                refine AW.iload dX2_value_132 rfl ?_
                refine AW.iconst (v := (1 : Int32)) dX2_value_134 (by decide) ?_
                refine AW.isub dX2_value_135 ?_
                refine AW.iload dX2_value_136 rfl ?_
                refine AW.aload dX2_value_138 rfl ?_
                refine AW.iload dX2_value_140 rfl ?_
                refine AW.iconst (v := (1 : Int32)) dX2_value_142 (by decide) ?_
                refine AW.isub dX2_value_143 ?_
                obtain ⟨h14, hf⟩ := gd_split hf
                refine TW.iald (x := (I1 80 (tn ((i3 + (-1 : Int32)) - (1 : Int32))))) hs.k80 h14 rfl dX2_value_144 ?_
                refine AW.aload dX2_value_145 rfl ?_
                refine AW.iload dX2_value_147 rfl ?_
                obtain ⟨h15, hf⟩ := gd_split hf
                refine TW.iald (x := (I1 80 (tn (i3 + (-1 : Int32))))) hs.k80 h15 rfl dX2_value_149 ?_
                obtain ⟨v16, gv16, hf⟩ := ob_split hf
                refine TW.invs (as := [.int (I1 a8 (tn i4)), .int (I1 80 (tn ((i3 + (-1 : Int32)) - (1 : Int32)))), .int (I1 80 (tn (i3 + (-1 : Int32))))]) (rest := [.int ((i3 + (-1 : Int32)) - (1 : Int32)), .ref 80]) stX2_30 dX2_value_150 rfl rfl (Nat.le_of_ble_eq_true rfl) (c_X2_joined hs gv16 ?_)
                show AW G mX2_value (d + 1) 0 0 K 153 [some (.ref a2), none, some (.int p2), some (.ref 79), some (.ref 80), some (.int (i3 + (-1 : Int32))), some (.int i4), some (.int (I1 a8 (tn i4)))] [.int v16, .int ((i3 + (-1 : Int32)) - (1 : Int32)), .ref 80] (I1, J, ρ)
                obtain ⟨h17, hf⟩ := gd_split hf
                refine TW.iast hs.k80 h17 dX2_value_153 ?_
                show AW G mX2_value (d + 1) 0 0 K 154 [some (.ref a2), none, some (.int p2), some (.ref 79), some (.ref 80), some (.int (i3 + (-1 : Int32))), some (.int i4), some (.int (I1 a8 (tn i4)))] [] ((u2 I1 80 (tn ((i3 + (-1 : Int32)) - (1 : Int32))) v16), J, ρ)
                refine AW.iinc (v := (i4 + (1 : Int32))) (ls' := [some (.ref a2), none, some (.int p2), some (.ref 79), some (.ref 80), some (.int (i3 + (-1 : Int32))), some (.int (i4 + (1 : Int32))), some (.int (I1 a8 (tn i4)))]) dX2_value_154 rfl rfl (Nat.le_of_ble_eq_true rfl) rfl ?_
                refine AW.goto (tgt := 6) dX2_value_157 (by decide) ?_
                exact AW.weak _ (by exact (And.intro rfl (And.intro rfl (And.intro rfl (And.intro rfl (And.intro rfl (And.intro rfl trivial))))))) (ih (u2 I1 80 (tn ((i3 + (-1 : Int32)) - (1 : Int32))) v16) (i3 + (-1 : Int32)) (i4 + (1 : Int32)) hf hE)
              · have hf := (if_neg hc).symm.trans hf
                refine AW.iconst (v := (0 : Int32)) dX2_value_125 (by decide) ?_
                obtain rfl := Option.some.inj hf
                exact AW.iret (st := []) dX2_value_126 rfl hE
            · have hf := (if_pos hc).symm.trans hf
              refine AW.iload dX2_value_89 rfl ?_
              refine AW.iconst (v := (1 : Int32)) dX2_value_91 (by decide) ?_
              refine AW.icmp_ge (tgt := 97) dX2_value_92 (by decide) (fun hc => ?_) (fun hc => ?_)
              · have hf := (if_pos hc).symm.trans hf
                refine AW.aload dX2_value_97 rfl ?_
                refine AW.iload dX2_value_99 rfl ?_
                refine AW.iconst (v := (1 : Int32)) dX2_value_101 (by decide) ?_
                refine AW.isub dX2_value_102 ?_
                refine AW.iload dX2_value_103 rfl ?_
                refine AW.aload dX2_value_105 rfl ?_
                refine AW.iload dX2_value_107 rfl ?_
                refine AW.iconst (v := (1 : Int32)) dX2_value_109 (by decide) ?_
                refine AW.isub dX2_value_110 ?_
                obtain ⟨h18, hf⟩ := gd_split hf
                refine TW.iald (x := (I1 80 (tn (i3 - (1 : Int32))))) hs.k80 h18 rfl dX2_value_111 ?_
                obtain ⟨v19, gv19, hf⟩ := ob_split hf
                refine TW.invs (as := [.int (I1 a8 (tn i4)), .int (I1 80 (tn (i3 - (1 : Int32))))]) (rest := [.int (i3 - (1 : Int32)), .ref 80]) stX2_26 dX2_value_112 rfl rfl (Nat.le_of_ble_eq_true rfl) (c_X2_alone hs gv19 ?_)
                show AW G mX2_value (d + 1) 0 0 K 115 [some (.ref a2), none, some (.int p2), some (.ref 79), some (.ref 80), some (.int i3), some (.int i4), some (.int (I1 a8 (tn i4)))] [.int v19, .int (i3 - (1 : Int32)), .ref 80] (I1, J, ρ)
                obtain ⟨h20, hf⟩ := gd_split hf
                refine TW.iast hs.k80 h20 dX2_value_115 ?_
                show AW G mX2_value (d + 1) 0 0 K 116 [some (.ref a2), none, some (.int p2), some (.ref 79), some (.ref 80), some (.int i3), some (.int i4), some (.int (I1 a8 (tn i4)))] [] ((u2 I1 80 (tn (i3 - (1 : Int32))) v19), J, ρ)
                refine AW.goto (tgt := 154) dX2_value_116 (by decide) ?_
                refine AW.iinc (v := (i4 + (1 : Int32))) (ls' := [some (.ref a2), none, some (.int p2), some (.ref 79), some (.ref 80), some (.int i3), some (.int (i4 + (1 : Int32))), some (.int (I1 a8 (tn i4)))]) dX2_value_154 rfl rfl (Nat.le_of_ble_eq_true rfl) rfl ?_
                refine AW.goto (tgt := 6) dX2_value_157 (by decide) ?_
                exact AW.weak _ (by exact (And.intro rfl (And.intro rfl (And.intro rfl (And.intro rfl (And.intro rfl (And.intro rfl trivial))))))) (ih (u2 I1 80 (tn (i3 - (1 : Int32))) v19) i3 (i4 + (1 : Int32)) hf hE)
              · have hf := (if_neg hc).symm.trans hf
                refine AW.iconst (v := (0 : Int32)) dX2_value_95 (by decide) ?_
                obtain rfl := Option.some.inj hf
                exact AW.iret (st := []) dX2_value_96 rfl hE
        · have hf := (if_neg hc).symm.trans hf
          refine AW.iload dX2_value_38 rfl ?_
          refine AW.aload dX2_value_40 rfl ?_
          refine TW.alen (v := (160 : Int32)) hs.k80 (by decide) (by decide) (by decide) dX2_value_42 ?_
          refine AW.icmp_lt (tgt := 48) dX2_value_43 (by decide) (fun hc => ?_) (fun hc => ?_)
          · have hf := (if_pos hc).symm.trans hf
            refine AW.aload dX2_value_48 rfl ?_
            refine AW.iload dX2_value_50 rfl ?_
            refine AW.iload dX2_value_52 rfl ?_
            obtain ⟨j22, gj22, hf⟩ := ob_split hf
            have Kj22 : AW G mX2_value (d + 1) 0 0 K 68 [some (.ref a2), none, some (.int p2), some (.ref 79), some (.ref 80), some (.int i3), some (.int i4), none] [.int j22, .int i3, .ref 80] (I1, J, ρ) := by
              obtain ⟨h23, hf⟩ := gd_split hf
              refine TW.iast hs.k80 h23 dX2_value_68 ?_
              show AW G mX2_value (d + 1) 0 0 K 69 [some (.ref a2), none, some (.int p2), some (.ref 79), some (.ref 80), some (.int i3), some (.int i4), none] [] ((u2 I1 80 (tn i3) j22), J, ρ)
              refine AW.iinc (v := (i3 + (1 : Int32))) (ls' := [some (.ref a2), none, some (.int p2), some (.ref 79), some (.ref 80), some (.int (i3 + (1 : Int32))), some (.int i4), none]) dX2_value_69 rfl rfl (Nat.le_of_ble_eq_true rfl) rfl ?_
              refine AW.goto (tgt := 154) dX2_value_72 (by decide) ?_
              refine AW.iinc (v := (i4 + (1 : Int32))) (ls' := [some (.ref a2), none, some (.int p2), some (.ref 79), some (.ref 80), some (.int (i3 + (1 : Int32))), some (.int (i4 + (1 : Int32))), none]) dX2_value_154 rfl rfl (Nat.le_of_ble_eq_true rfl) rfl ?_
              refine AW.goto (tgt := 6) dX2_value_157 (by decide) ?_
              exact AW.weak _ (by exact (And.intro rfl (And.intro rfl (And.intro rfl (And.intro rfl (And.intro rfl (And.intro rfl trivial))))))) (ih (u2 I1 80 (tn i3) j22) (i3 + (1 : Int32)) (i4 + (1 : Int32)) hf hE)
            clear hf; have hf := gj22; clear gj22
            refine AW.if_lt (tgt := 62) dX2_value_54 (by decide) (fun hc => ?_) (fun hc => ?_)
            · have hf := (if_pos hc).symm.trans hf
              refine AW.aload_n dX2_value_62 rfl ?_
              refine AW.iconst (v := (-1 : Int32)) dX2_value_63 (by decide) ?_
              refine AW.iload dX2_value_64 rfl ?_
              refine AW.isub dX2_value_66 ?_
              obtain ⟨h21, hf⟩ := gd_split hf
              refine TW.iald (x := (I1 79 (tn ((-1 : Int32) - (I1 a8 (tn i4)))))) hs.k79 h21 rfl dX2_value_67 ?_
              obtain rfl := Option.some.inj hf
              exact AW.weak _ (by exact (And.intro rfl (And.intro rfl (And.intro rfl (And.intro rfl (And.intro rfl (And.intro rfl trivial))))))) Kj22
            · have hf := (if_neg hc).symm.trans hf
              refine AW.iload dX2_value_57 rfl ?_
              refine AW.goto (tgt := 68) dX2_value_59 (by decide) ?_
              obtain rfl := Option.some.inj hf
              exact AW.weak _ (by exact (And.intro rfl (And.intro rfl (And.intro rfl (And.intro rfl (And.intro rfl (And.intro rfl trivial))))))) Kj22
          · have hf := (if_neg hc).symm.trans hf
            refine AW.iconst (v := (0 : Int32)) dX2_value_46 (by decide) ?_
            obtain rfl := Option.some.inj hf
            exact AW.iret (st := []) dX2_value_47 rfl hE
def f_X2_value (N : Nat) (ρ : Rh) (I : Nat → Nat → Int32) (J : Nat → Nat → Int64) (p0 : Nat) (p1 : Int32) (p2 : Int32) : Option ((Nat → Nat → Int32) × Int32) := ((f_X2_value_6 N J ρ p0 p2 N I (0 : Int32) p1).bind fun j24 => scase j24 (fun r => some r) (fun j24 => (if (j24.2 ≤ (0 : Int32)) then some (j24.1, (0 : Int32)) else (if ¬ ((j24.2 - (1 : Int32)) < 0 ∨ 160 ≤ tn (j24.2 - (1 : Int32))) then some (j24.1, (j24.1 80 (tn (j24.2 - (1 : Int32))))) else none))))
theorem c_X2_value {G : Gd} {d N : Nat} {K : Ah → Option Value → Prop} {ρ : Rh} {I : Nat → Nat → Int32} {J : Nat → Nat → Int64} {p0 : Nat} {p1 : Int32} {p2 : Int32} {o : (Nat → Nat → Int32) × Int32} (hs : Sh ρ) (hf : f_X2_value N ρ I J p0 p1 p2 = some o) (hK : K (o.1, J, ρ) (some (.int o.2))) : AM G (d + 1) 0 0 mX2_value [.ref p0, .int p1, .int p2, .ref 79, .ref 80] (I, J, ρ) K := by
  unfold f_X2_value at hf
  refine AM.intro okX2_value.2.2.2.1 (Nat.le_of_ble_eq_true rfl) [some (.ref p0), some (.int p1), some (.int p2), some (.ref 79), some (.ref 80), none, none, none] rfl ?_
  refine AW.iconst (v := (0 : Int32)) dX2_value_0 (by decide) ?_
  refine AW.istore (ls' := [some (.ref p0), some (.int p1), some (.int p2), some (.ref 79), some (.ref 80), some (.int (0 : Int32)), none, none]) dX2_value_1 (Nat.le_of_ble_eq_true rfl) rfl ?_
  refine AW.iload_n dX2_value_3 rfl ?_
  refine AW.istore (ls' := [some (.ref p0), some (.int p1), some (.int p2), some (.ref 79), some (.ref 80), some (.int (0 : Int32)), some (.int p1), none]) dX2_value_4 (Nat.le_of_ble_eq_true rfl) rfl ?_
  obtain ⟨j24, gj24, hf⟩ := ob_split hf
  refine AW.weak _ (by exact (And.intro rfl (And.intro rfl (And.intro rfl (And.intro rfl (And.intro rfl (And.intro rfl trivial))))))) (l_X2_value_6 hs N I (0 : Int32) p1 gj24 ?_)
  rcases j24 with r | j24
  · obtain rfl := Option.some.inj hf; exact hK
  · show AW G mX2_value (d + 1) 0 0 K 160 [none, none, none, none, some (.ref 80), some (.int j24.2), none, none] [] (j24.1, J, ρ)
    refine AW.iload dX2_value_160 rfl ?_
    refine AW.if_le (tgt := 175) dX2_value_162 (by decide) (fun hc => ?_) (fun hc => ?_)
    · have hf := (if_pos hc).symm.trans hf
      refine AW.iconst (v := (0 : Int32)) dX2_value_175 (by decide) ?_
      obtain rfl := Option.some.inj hf
      exact AW.iret (st := []) dX2_value_176 rfl hK
    · have hf := (if_neg hc).symm.trans hf
      refine AW.aload dX2_value_165 rfl ?_
      refine AW.iload dX2_value_167 rfl ?_
      refine AW.iconst (v := (1 : Int32)) dX2_value_169 (by decide) ?_
      refine AW.isub dX2_value_170 ?_
      obtain ⟨h25, hf⟩ := gd_split hf
      refine TW.iald (x := (j24.1 80 (tn (j24.2 - (1 : Int32))))) hs.k80 h25 rfl dX2_value_171 ?_
      refine AW.goto (tgt := 176) dX2_value_172 (by decide) ?_
      obtain rfl := Option.some.inj hf
      exact AW.iret (st := []) dX2_value_176 rfl hK
