/-! ===== methods 13.class 3 ===== -/
def f_X10_living_4 (N : Nat) (I : Nat → Nat → Int32) (J : Nat → Nat → Int64) (ρ : Rh) (p1 : Int32) : Nat → Int32 → Int32 → Option (Int32)
  | 0, _, _ => none
  | n + 1, i1, i2 => (if ((I 42 0) ≤ i2) then some i1 else (if ¬ (p1 < 0 ∨ 13 ≤ tn p1) then (if ¬ (i2 < 0 ∨ 8 ≤ tn i2) then (((if ((I (50 + (tn p1)) (tn i2)) ≤ (0 : Int32)) then some i1 else some (i1 + (1 : Int32))) : Option (Int32)).bind fun j6 => f_X10_living_4 N I J ρ p1 n j6 (i2 + (1 : Int32))) else none) else none))
theorem l_X10_living_4 {G : Gd} {d N : Nat} {K : Ah → Option Value → Prop} {I : Nat → Nat → Int32} {J : Nat → Nat → Int64} {ρ : Rh} {p1 : Int32} (hs : Sh ρ) {o : Int32} : ∀ (n : Nat) (i1 : Int32) (i2 : Int32), f_X10_living_4 N I J ρ p1 n i1 i2 = some o → AW G mX10_living d 0 0 K 35 [none, none, some (.int o), none] [] (I, J, ρ) → AW G mX10_living d 0 0 K 4 [some (.ref 48), some (.int p1), some (.int i1), some (.int i2)] [] (I, J, ρ) := by
  intro n
  induction n with
  | zero => intro i1 i2 hf hE; rw [f_X10_living_4.eq_1] at hf; cases hf
  | succ n ih =>
    intro i1 i2 hf hE
    rw [f_X10_living_4.eq_2] at hf
    refine AW.iload_n dX10_living_4 rfl ?_
    refine AW.aload_n dX10_living_5 rfl ?_
    refine TW.getR fX10_36_10 hs.k48 (rf_some hs.r48_0) dX10_living_6 ?_
    refine TW.getI (x := (I 42 0)) fX10_111_0 hs.k42 rfl dX10_living_9 ?_
    refine AW.icmp_ge (tgt := 35) dX10_living_12 (by decide) (fun hc => ?_) (fun hc => ?_)
    · have hf := (if_pos hc).symm.trans hf
      obtain rfl := Option.some.inj hf
      exact AW.weak _ (by exact (And.intro rfl trivial)) hE
    · have hf := (if_neg hc).symm.trans hf
      refine AW.aload_n dX10_living_15 rfl ?_
      refine TW.getR fX10_11_10 hs.k48 (rf_some hs.r48_1) dX10_living_16 ?_
      refine AW.iload_n dX10_living_19 rfl ?_
      obtain ⟨h3, hf⟩ := gd_split hf
      have hl4 : (tn p1) < 13 := vp_lt h3
      refine TW.aald (t := 3) hs.k49 (by decide) h3 (rf_some (hs.e49 hl4)) dX10_living_20 ?_
      refine AW.iload_n dX10_living_21 rfl ?_
      obtain ⟨h5, hf⟩ := gd_split hf
      refine TW.iald (x := (I (50 + (tn p1)) (tn i2))) (hs.ek49 hl4) h5 rfl dX10_living_22 ?_
      obtain ⟨j6, gj6, hf⟩ := ob_split hf
      have Kj6 : AW G mX10_living d 0 0 K 29 [some (.ref 48), some (.int p1), some (.int j6), some (.int i2)] [] (I, J, ρ) := by
        refine AW.iinc (v := (i2 + (1 : Int32))) (ls' := [some (.ref 48), some (.int p1), some (.int j6), some (.int (i2 + (1 : Int32)))]) dX10_living_29 rfl rfl (Nat.le_of_ble_eq_true rfl) rfl ?_
        refine AW.goto (tgt := 4) dX10_living_32 (by decide) ?_
        exact AW.weak _ (by exact (And.intro rfl (And.intro rfl (And.intro rfl (And.intro rfl trivial))))) (ih j6 (i2 + (1 : Int32)) hf hE)
      clear hf; have hf := gj6; clear gj6
      refine AW.if_le (tgt := 29) dX10_living_23 (by decide) (fun hc => ?_) (fun hc => ?_)
      · have hf := (if_pos hc).symm.trans hf
        obtain rfl := Option.some.inj hf
        exact AW.weak _ (by exact (And.intro rfl (And.intro rfl (And.intro rfl (And.intro rfl trivial))))) Kj6
      · have hf := (if_neg hc).symm.trans hf
        refine AW.iinc (v := (i1 + (1 : Int32))) (ls' := [some (.ref 48), some (.int p1), some (.int (i1 + (1 : Int32))), some (.int i2)]) dX10_living_26 rfl rfl (Nat.le_of_ble_eq_true rfl) rfl ?_
        obtain rfl := Option.some.inj hf
        exact AW.weak _ (by exact (And.intro rfl (And.intro rfl (And.intro rfl (And.intro rfl trivial))))) Kj6
def f_X10_living (N : Nat) (ρ : Rh) (I : Nat → Nat → Int32) (J : Nat → Nat → Int64) (p1 : Int32) : Option (Int32) := ((f_X10_living_4 N I J ρ p1 N (0 : Int32) (0 : Int32)).bind fun j7 => some j7)
theorem c_X10_living {G : Gd} {d N : Nat} {K : Ah → Option Value → Prop} {ρ : Rh} {I : Nat → Nat → Int32} {J : Nat → Nat → Int64} {p1 : Int32} {o : Int32} (hs : Sh ρ) (hf : f_X10_living N ρ I J p1 = some o) (hK : K (I, J, ρ) (some (.int o))) : AM G d 0 0 mX10_living [.ref 48, .int p1] (I, J, ρ) K := by
  unfold f_X10_living at hf
  refine AM.intro okX10_living.2.2.2.1 (Nat.le_of_ble_eq_true rfl) [some (.ref 48), some (.int p1), none, none] rfl ?_
  refine AW.iconst (v := (0 : Int32)) dX10_living_0 (by decide) ?_
  refine AW.istore_n (ls' := [some (.ref 48), some (.int p1), some (.int (0 : Int32)), none]) dX10_living_1 (Nat.le_of_ble_eq_true rfl) rfl ?_
  refine AW.iconst (v := (0 : Int32)) dX10_living_2 (by decide) ?_
  refine AW.istore_n (ls' := [some (.ref 48), some (.int p1), some (.int (0 : Int32)), some (.int (0 : Int32))]) dX10_living_3 (Nat.le_of_ble_eq_true rfl) rfl ?_
  obtain ⟨j7, gj7, hf⟩ := ob_split hf
  refine AW.weak _ (by exact (And.intro rfl (And.intro rfl (And.intro rfl (And.intro rfl trivial))))) (l_X10_living_4 hs N (0 : Int32) (0 : Int32) gj7 ?_)
  show AW G mX10_living d 0 0 K 35 [none, none, some (.int j7), none] [] (I, J, ρ)
  refine AW.iload_n dX10_living_35 rfl ?_
  obtain rfl := Option.some.inj hf
  exact AW.iret (st := []) dX10_living_36 rfl hK
def f_X10_bound (N : Nat) (ρ : Rh) (I : Nat → Nat → Int32) (J : Nat → Nat → Int64) (p1 : Int32) (p2 : Int32) : Option (Int32) := some (if (0 : Int32) < (if p1 < p2 then p1 else p2) then (if p1 < p2 then p1 else p2) else (0 : Int32))
theorem c_X10_bound {G : Gd} {d N : Nat} {K : Ah → Option Value → Prop} {ρ : Rh} {I : Nat → Nat → Int32} {J : Nat → Nat → Int64} {p1 : Int32} {p2 : Int32} {o : Int32} (hs : Sh ρ) (hf : f_X10_bound N ρ I J p1 p2 = some o) (hK : K (I, J, ρ) (some (.int o))) : AM G (d + 1) 0 0 mX10_bound [.int p1, .int p2] (I, J, ρ) K := by
  unfold f_X10_bound at hf
  refine AM.intro okX10_bound.2.2.2.1 (Nat.le_of_ble_eq_true rfl) [some (.int p1), some (.int p2)] rfl ?_
  refine AW.iconst (v := (0 : Int32)) dX10_bound_0 (by decide) ?_
  refine AW.iload_n dX10_bound_1 rfl ?_
  refine AW.iload_n dX10_bound_2 rfl ?_
  refine AW.mmin mtX10_90 dX10_bound_3 (Nat.le_of_ble_eq_true rfl) ?_
  refine AW.mmax mtX10_159 dX10_bound_6 (Nat.le_of_ble_eq_true rfl) ?_
  obtain rfl := Option.some.inj hf
  exact AW.iret (st := []) dX10_bound_9 rfl hK
def f_X10_findFacts (N : Nat) (ρ : Rh) (I : Nat → Nat → Int32) (J : Nat → Nat → Int64) (p1 : Int32) : Option ((Nat → Nat → Int32)) := (if ¬ ((I 48 13) < 0 ∨ 13 ≤ tn (I 48 13)) then (if ¬ (p1 < 0 ∨ 8 ≤ tn p1) then (bnd (I (50 + (tn (I 48 13))) (tn p1)) fun x4 => (if ¬ (p1 < 0 ∨ 8 ≤ tn p1) then (if ¬ ((I 48 13) < 0 ∨ 12 ≤ tn (I 48 13)) then (if ¬ (p1 < 0 ∨ 8 ≤ tn p1) then (bnd ((u2 (u2 (u2 I 79 0 x4) 79 1 (I 44 (tn p1))) 79 2 (I 48 13)) (64 + (tn (I 48 13))) (tn p1)) fun x9 => (Option.bind (ρ.1 48 8) fun a10 => (if isR (ρ.2.1 a10) then (bnd ((u2 (u2 (u2 (u2 (u2 I 79 0 x4) 79 1 (I 44 (tn p1))) 79 2 (I 48 13)) 79 3 x9) 79 4 (I 48 14)) a10 1) fun x12 => some (u2 (u2 (u2 (u2 (u2 (u2 I 79 0 x4) 79 1 (I 44 (tn p1))) 79 2 (I 48 13)) 79 3 x9) 79 4 (I 48 14)) 79 5 x12)) else none))) else none) else none) else none)) else none) else none)
theorem c_X10_findFacts {G : Gd} {d N : Nat} {K : Ah → Option Value → Prop} {ρ : Rh} {I : Nat → Nat → Int32} {J : Nat → Nat → Int64} {p1 : Int32} {o : (Nat → Nat → Int32)} (hs : Sh ρ) (hf : f_X10_findFacts N ρ I J p1 = some o) (hK : K (o, J, ρ) none) : AM G d 0 0 mX10_findFacts [.ref 48, .int p1] (I, J, ρ) K := by
  unfold f_X10_findFacts at hf
  refine AM.intro okX10_findFacts.2.2.2.1 (Nat.le_of_ble_eq_true rfl) [some (.ref 48), some (.int p1)] rfl ?_
  refine AW.aload_n dX10_findFacts_0 rfl ?_
  refine TW.getR fX10_30_10 hs.k48 (rf_some hs.r48_6) dX10_findFacts_1 ?_
  refine AW.iconst (v := (0 : Int32)) dX10_findFacts_4 (by decide) ?_
  refine AW.aload_n dX10_findFacts_5 rfl ?_
  refine TW.getR fX10_11_10 hs.k48 (rf_some hs.r48_1) dX10_findFacts_6 ?_
  refine AW.aload_n dX10_findFacts_9 rfl ?_
  refine TW.getI (x := (I 48 13)) fX10_77_10 hs.k48 rfl dX10_findFacts_10 ?_
  obtain ⟨h1, hf⟩ := gd_split hf
  have hl2 : (tn (I 48 13)) < 13 := vp_lt h1
  refine TW.aald (t := 3) hs.k49 (by decide) h1 (rf_some (hs.e49 hl2)) dX10_findFacts_13 ?_
  refine AW.iload_n dX10_findFacts_14 rfl ?_
  obtain ⟨h3, hf⟩ := gd_split hf
  refine TW.iald (x := (I (50 + (tn (I 48 13))) (tn p1))) (hs.ek49 hl2) h3 rfl dX10_findFacts_15 ?_
  obtain ⟨x4, gx4, hf⟩ := bnd_one hf
  refine AW.nmI gx4 ?_
  refine TW.iast hs.k79 (show ¬ ((0 : Int32) < 0 ∨ 6 ≤ (0 : Int32).toNatClampNeg) by decide) dX10_findFacts_16 ?_
  show AW G mX10_findFacts d 0 0 K 17 [some (.ref 48), some (.int p1)] [] ((u2 I 79 0 x4), J, ρ)
  refine AW.aload_n dX10_findFacts_17 rfl ?_
  refine TW.getR fX10_30_10 hs.k48 (rf_some hs.r48_6) dX10_findFacts_18 ?_
  refine AW.iconst (v := (1 : Int32)) dX10_findFacts_21 (by decide) ?_
  refine AW.aload_n dX10_findFacts_22 rfl ?_
  refine TW.getR fX10_36_10 hs.k48 (rf_some hs.r48_0) dX10_findFacts_23 ?_
  refine TW.getR fX10_153_0 hs.k42 (rf_some hs.r42_2) dX10_findFacts_26 ?_
  refine AW.iload_n dX10_findFacts_29 rfl ?_
  obtain ⟨h5, hf⟩ := gd_split hf
  refine TW.iald (x := (I 44 (tn p1))) hs.k44 h5 (u2_ne (by decide)) dX10_findFacts_30 ?_
  refine TW.iast hs.k79 (show ¬ ((1 : Int32) < 0 ∨ 6 ≤ (1 : Int32).toNatClampNeg) by decide) dX10_findFacts_31 ?_
  show AW G mX10_findFacts d 0 0 K 32 [some (.ref 48), some (.int p1)] [] ((u2 (u2 I 79 0 x4) 79 1 (I 44 (tn p1))), J, ρ)
  refine AW.aload_n dX10_findFacts_32 rfl ?_
  refine TW.getR fX10_30_10 hs.k48 (rf_some hs.r48_6) dX10_findFacts_33 ?_
  refine AW.iconst (v := (2 : Int32)) dX10_findFacts_36 (by decide) ?_
  refine AW.aload_n dX10_findFacts_37 rfl ?_
  refine TW.getI (x := (I 48 13)) fX10_77_10 hs.k48 ((u2_ne (by decide)).trans (u2_ne (by decide))) dX10_findFacts_38 ?_
  refine TW.iast hs.k79 (show ¬ ((2 : Int32) < 0 ∨ 6 ≤ (2 : Int32).toNatClampNeg) by decide) dX10_findFacts_41 ?_
  show AW G mX10_findFacts d 0 0 K 42 [some (.ref 48), some (.int p1)] [] ((u2 (u2 (u2 I 79 0 x4) 79 1 (I 44 (tn p1))) 79 2 (I 48 13)), J, ρ)
  refine AW.aload_n dX10_findFacts_42 rfl ?_
  refine TW.getR fX10_30_10 hs.k48 (rf_some hs.r48_6) dX10_findFacts_43 ?_
  refine AW.iconst (v := (3 : Int32)) dX10_findFacts_46 (by decide) ?_
  refine AW.aload_n dX10_findFacts_47 rfl ?_
  refine TW.getR fX10_16_10 hs.k48 (rf_some hs.r48_2) dX10_findFacts_48 ?_
  refine AW.aload_n dX10_findFacts_51 rfl ?_
  refine TW.getI (x := (I 48 13)) fX10_77_10 hs.k48 ((u2_ne (by decide)).trans ((u2_ne (by decide)).trans (u2_ne (by decide)))) dX10_findFacts_52 ?_
  obtain ⟨h6, hf⟩ := gd_split hf
  have hl7 : (tn (I 48 13)) < 12 := vp_lt h6
  refine TW.aald (t := 3) hs.k63 (by decide) h6 (rf_some (hs.e63 hl7)) dX10_findFacts_55 ?_
  refine AW.iload_n dX10_findFacts_56 rfl ?_
  obtain ⟨h8, hf⟩ := gd_split hf
  refine TW.iald (x := ((u2 (u2 (u2 I 79 0 x4) 79 1 (I 44 (tn p1))) 79 2 (I 48 13)) (64 + (tn (I 48 13))) (tn p1))) (hs.ek63 hl7) h8 rfl dX10_findFacts_57 ?_
  obtain ⟨x9, gx9, hf⟩ := bnd_one hf
  refine AW.nmI gx9 ?_
  refine TW.iast hs.k79 (show ¬ ((3 : Int32) < 0 ∨ 6 ≤ (3 : Int32).toNatClampNeg) by decide) dX10_findFacts_58 ?_
  show AW G mX10_findFacts d 0 0 K 59 [some (.ref 48), some (.int p1)] [] ((u2 (u2 (u2 (u2 I 79 0 x4) 79 1 (I 44 (tn p1))) 79 2 (I 48 13)) 79 3 x9), J, ρ)
  refine AW.aload_n dX10_findFacts_59 rfl ?_
  refine TW.getR fX10_30_10 hs.k48 (rf_some hs.r48_6) dX10_findFacts_60 ?_
  refine AW.iconst (v := (4 : Int32)) dX10_findFacts_63 (by decide) ?_
  refine AW.aload_n dX10_findFacts_64 rfl ?_
  refine TW.getI (x := (I 48 14)) fX10_114_10 hs.k48 ((u2_ne (by decide)).trans ((u2_ne (by decide)).trans ((u2_ne (by decide)).trans (u2_ne (by decide))))) dX10_findFacts_65 ?_
  refine TW.iast hs.k79 (show ¬ ((4 : Int32) < 0 ∨ 6 ≤ (4 : Int32).toNatClampNeg) by decide) dX10_findFacts_68 ?_
  show AW G mX10_findFacts d 0 0 K 69 [some (.ref 48), some (.int p1)] [] ((u2 (u2 (u2 (u2 (u2 I 79 0 x4) 79 1 (I 44 (tn p1))) 79 2 (I 48 13)) 79 3 x9) 79 4 (I 48 14)), J, ρ)
  refine AW.aload_n dX10_findFacts_69 rfl ?_
  refine TW.getR fX10_30_10 hs.k48 (rf_some hs.r48_6) dX10_findFacts_70 ?_
  refine AW.iconst (v := (5 : Int32)) dX10_findFacts_73 (by decide) ?_
  refine AW.aload_n dX10_findFacts_74 rfl ?_
  obtain ⟨a10, ga10, hf⟩ := ob_split hf
  refine TW.getR (v := .ref a10) fX10_49_10 hs.k48 (rf_some ga10) dX10_findFacts_75 ?_
  obtain ⟨h11, hf⟩ := gd_split hf
  refine TW.getQ (x := ((u2 (u2 (u2 (u2 (u2 I 79 0 x4) 79 1 (I 44 (tn p1))) 79 2 (I 48 13)) 79 3 x9) 79 4 (I 48 14)) a10 1)) fX10_156_6 fX10_156_5 fX10_156_4 fX10_156_3 fX10_156_9 fX10_156_1 h11 rfl dX10_findFacts_78 ?_
  obtain ⟨x12, gx12, hf⟩ := bnd_one hf
  refine AW.nmI gx12 ?_
  refine TW.iast hs.k79 (show ¬ ((5 : Int32) < 0 ∨ 6 ≤ (5 : Int32).toNatClampNeg) by decide) dX10_findFacts_81 ?_
  show AW G mX10_findFacts d 0 0 K 82 [some (.ref 48), some (.int p1)] [] ((u2 (u2 (u2 (u2 (u2 (u2 I 79 0 x4) 79 1 (I 44 (tn p1))) 79 2 (I 48 13)) 79 3 x9) 79 4 (I 48 14)) 79 5 x12), J, ρ)
  obtain rfl := Option.some.inj hf
  exact AW.vret (st := []) dX10_findFacts_82 rfl hK
def f_X10_fromHidden (N : Nat) (ρ : Rh) (I : Nat → Nat → Int32) (J : Nat → Nat → Int64) (p1 : Int32) : Option ((Nat → Nat → Int32) × Int32) := (if (p1 = (I 48 11)) then (if ((0 : Int32) < (I 48 12)) then some ((u2 I 48 12 ((I 48 12) - (1 : Int32))), (1 : Int32)) else some (I, (0 : Int32))) else some (I, (0 : Int32)))
theorem c_X10_fromHidden {G : Gd} {d N : Nat} {K : Ah → Option Value → Prop} {ρ : Rh} {I : Nat → Nat → Int32} {J : Nat → Nat → Int64} {p1 : Int32} {o : (Nat → Nat → Int32) × Int32} (hs : Sh ρ) (hf : f_X10_fromHidden N ρ I J p1 = some o) (hK : K (o.1, J, ρ) (some (.int o.2))) : AM G d 0 0 mX10_fromHidden [.ref 48, .int p1] (I, J, ρ) K := by
  unfold f_X10_fromHidden at hf
  refine AM.intro okX10_fromHidden.2.2.2.1 (Nat.le_of_ble_eq_true rfl) [some (.ref 48), some (.int p1)] rfl ?_
  refine AW.iload_n dX10_fromHidden_0 rfl ?_
  refine AW.aload_n dX10_fromHidden_1 rfl ?_
  refine TW.getI (x := (I 48 11)) fX10_60_10 hs.k48 rfl dX10_fromHidden_2 ?_
  refine AW.icmp_ne (tgt := 15) dX10_fromHidden_5 (by decide) (fun hc => ?_) (fun hc => ?_)
  · have hf := (if_neg hc).symm.trans hf
    refine AW.iconst (v := (0 : Int32)) dX10_fromHidden_15 (by decide) ?_
    obtain rfl := Option.some.inj hf
    exact AW.iret (st := []) dX10_fromHidden_16 rfl hK
  · have hf := (if_pos hc).symm.trans hf
    refine AW.aload_n dX10_fromHidden_8 rfl ?_
    refine TW.getI (x := (I 48 12)) fX10_63_10 hs.k48 rfl dX10_fromHidden_9 ?_
    refine AW.if_gt (tgt := 17) dX10_fromHidden_12 (by decide) (fun hc => ?_) (fun hc => ?_)
    · have hf := (if_pos hc).symm.trans hf
      refine AW.aload_n dX10_fromHidden_17 rfl ?_
      refine AW.dup dX10_fromHidden_18 rfl ?_
      refine TW.getI (x := (I 48 12)) fX10_63_10 hs.k48 rfl dX10_fromHidden_19 ?_
      refine AW.iconst (v := (1 : Int32)) dX10_fromHidden_22 (by decide) ?_
      refine AW.isub dX10_fromHidden_23 ?_
      refine TW.putI fX10_63_10 hs.k48 (Or.inl rfl) dX10_fromHidden_24 ?_
      show AW G mX10_fromHidden d 0 0 K 27 [some (.ref 48), some (.int p1)] [] ((u2 I 48 12 ((I 48 12) - (1 : Int32))), J, ρ)
      refine AW.iconst (v := (1 : Int32)) dX10_fromHidden_27 (by decide) ?_
      obtain rfl := Option.some.inj hf
      exact AW.iret (st := []) dX10_fromHidden_28 rfl hK
    · have hf := (if_neg hc).symm.trans hf
      refine AW.iconst (v := (0 : Int32)) dX10_fromHidden_15 (by decide) ?_
      obtain rfl := Option.some.inj hf
      exact AW.iret (st := []) dX10_fromHidden_16 rfl hK
def f_X10_rowAndLive_10 (N : Nat) (J : Nat → Nat → Int64) (ρ : Rh) (a3 : Nat) : Nat → (Nat → Nat → Int32) → Int32 → Option ((Nat → Nat → Int32))
  | 0, _, _ => none
  | n + 1, I2, i4 => (if ((I2 42 0) ≤ i4) then some I2 else (if ¬ ((I2 48 13) < 0 ∨ 13 ≤ tn (I2 48 13)) then (if ¬ (i4 < 0 ∨ 8 ≤ tn i4) then (((if ((I2 (50 + (tn (I2 48 13))) (tn i4)) ≤ (0 : Int32)) then some I2 else (Option.bind (f_X10_findFacts N ρ I2 J i4) fun v8 => (if ¬ (((v8 48 13) + (1 : Int32)) < 0 ∨ 13 ≤ tn ((v8 48 13) + (1 : Int32))) then (if ρ.2.1 a3 = (0, 2) then (Option.bind (f_X2_row N ρ v8 J a3) fun v11 => (Option.bind (f_X10_bound N ρ v11.1 J v11.2 (99 : Int32)) fun v12 => (bnd ((v8 77 (tn ((v8 48 13) + (1 : Int32)))) + v12) fun x13 => (if ¬ (((v8 48 13) + (1 : Int32)) < 0 ∨ 13 ≤ tn ((v8 48 13) + (1 : Int32))) then (Option.bind (f_X2_need N ρ (u2 v11.1 77 (tn ((v8 48 13) + (1 : Int32))) x13) J a3) fun v15 => (Option.bind (f_X10_bound N ρ v15.1 J v15.2 (20 : Int32)) fun v16 => (if ¬ ((v15.1 48 13) < 0 ∨ 12 ≤ tn (v15.1 48 13)) then (if ¬ (i4 < 0 ∨ 8 ≤ tn i4) then (Option.bind (f_X10_fromHidden N ρ v15.1 J i4) fun v20 => (bnd ((v15.1 (64 + (tn (v15.1 48 13))) (tn i4)) + v20.2) fun x21 => (if ¬ (((v20.1 48 13) + (1 : Int32)) < 0 ∨ 13 ≤ tn ((v20.1 48 13) + (1 : Int32))) then (if ¬ ((v20.1 48 13) < 0 ∨ 13 ≤ tn (v20.1 48 13)) then (if ¬ (i4 < 0 ∨ 8 ≤ tn i4) then (Option.bind (f_X10_bound N ρ v20.1 J (((v20.1 (50 + (tn (v20.1 48 13))) (tn i4)) + x21) - v16) (99 : Int32)) fun v27 => (if ¬ (i4 < 0 ∨ 8 ≤ tn i4) then some (u2 v20.1 (50 + (tn ((v20.1 48 13) + (1 : Int32)))) (tn i4) v27) else none)) else none) else none) else none))) else none) else none))) else none)))) else none) else none))) : Option ((Nat → Nat → Int32))).bind fun j29 => f_X10_rowAndLive_10 N J ρ a3 n j29 (i4 + (1 : Int32))) else none) else none))
theorem l_X10_rowAndLive_10 {G : Gd} {d N : Nat} {K : Ah → Option Value → Prop} {J : Nat → Nat → Int64} {ρ : Rh} {a3 : Nat} (hs : Sh ρ) {o : (Nat → Nat → Int32)} : ∀ (n : Nat) (I2 : Nat → Nat → Int32) (i4 : Int32), f_X10_rowAndLive_10 N J ρ a3 n I2 i4 = some o → AW G mX10_rowAndLive (d + 3) 0 0 K 148 [none, none, none, none, none] [] (o, J, ρ) → AW G mX10_rowAndLive (d + 3) 0 0 K 10 [some (.ref 48), some (.ref a3), some (.int i4), none, none] [] (I2, J, ρ) := by
  intro n
  induction n with
  | zero => intro I2 i4 hf hE; rw [f_X10_rowAndLive_10.eq_1] at hf; cases hf
  | succ n ih =>
    intro I2 i4 hf hE
    rw [f_X10_rowAndLive_10.eq_2] at hf
    refine AW.iload_n dX10_rowAndLive_10 rfl ?_
    refine AW.aload_n dX10_rowAndLive_11 rfl ?_
    refine TW.getR fX10_36_10 hs.k48 (rf_some hs.r48_0) dX10_rowAndLive_12 ?_
    refine TW.getI (x := (I2 42 0)) fX10_111_0 hs.k42 rfl dX10_rowAndLive_15 ?_
    refine AW.icmp_ge (tgt := 148) dX10_rowAndLive_18 (by decide) (fun hc => ?_) (fun hc => ?_)
    · have hf := (if_pos hc).symm.trans hf
      obtain rfl := Option.some.inj hf
      exact AW.weak _ (by exact trivial) hE
    · have hf := (if_neg hc).symm.trans hf
      refine AW.aload_n dX10_rowAndLive_21 rfl ?_
      refine TW.getR fX10_11_10 hs.k48 (rf_some hs.r48_1) dX10_rowAndLive_22 ?_
      refine AW.aload_n dX10_rowAndLive_25 rfl ?_
      refine TW.getI (x := (I2 48 13)) fX10_77_10 hs.k48 rfl dX10_rowAndLive_26 ?_
      obtain ⟨h5, hf⟩ := gd_split hf
      have hl6 : (tn (I2 48 13)) < 13 := vp_lt h5
      refine TW.aald (t := 3) hs.k49 (by decide) h5 (rf_some (hs.e49 hl6)) dX10_rowAndLive_29 ?_
      refine AW.iload_n dX10_rowAndLive_30 rfl ?_
      obtain ⟨h7, hf⟩ := gd_split hf
      refine TW.iald (x := (I2 (50 + (tn (I2 48 13))) (tn i4))) (hs.ek49 hl6) h7 rfl dX10_rowAndLive_31 ?_
      obtain ⟨j29, gj29, hf⟩ := ob_split hf
      have Kj29 : AW G mX10_rowAndLive (d + 3) 0 0 K 142 [some (.ref 48), some (.ref a3), some (.int i4), none, none] [] (j29, J, ρ) := by
        refine AW.iinc (v := (i4 + (1 : Int32))) (ls' := [some (.ref 48), some (.ref a3), some (.int (i4 + (1 : Int32))), none, none]) dX10_rowAndLive_142 rfl rfl (Nat.le_of_ble_eq_true rfl) rfl ?_
        refine AW.goto (tgt := 10) dX10_rowAndLive_145 (by decide) ?_
        exact AW.weak _ (by exact (And.intro rfl (And.intro rfl (And.intro rfl trivial)))) (ih j29 (i4 + (1 : Int32)) hf hE)
      clear hf; have hf := gj29; clear gj29
      refine AW.if_le (tgt := 142) dX10_rowAndLive_32 (by decide) (fun hc => ?_) (fun hc => ?_)
      · have hf := (if_pos hc).symm.trans hf
        obtain rfl := Option.some.inj hf
        exact AW.weak _ (by exact (And.intro rfl (And.intro rfl (And.intro rfl trivial)))) Kj29
      · have hf := (if_neg hc).symm.trans hf
        refine AW.aload_n dX10_rowAndLive_35 rfl ?_
        refine AW.iload_n dX10_rowAndLive_36 rfl ?_
        obtain ⟨v8, gv8, hf⟩ := ob_split hf
        refine TW.invv (as := [.int i4]) (rest := []) viX10_134_10 hs.k48 dX10_rowAndLive_37 rfl rfl (Nat.le_of_ble_eq_true rfl) (c_X10_findFacts hs gv8 ?_)
        show AW G mX10_rowAndLive (d + 3) 0 0 K 40 [some (.ref 48), some (.ref a3), some (.int i4), none, none] [] (v8, J, ρ)
        refine AW.aload_n dX10_rowAndLive_40 rfl ?_
        refine TW.getR fX10_23_10 hs.k48 (rf_some hs.r48_4) dX10_rowAndLive_41 ?_
        refine AW.aload_n dX10_rowAndLive_44 rfl ?_
        refine TW.getI (x := (v8 48 13)) fX10_77_10 hs.k48 rfl dX10_rowAndLive_45 ?_
        refine AW.iconst (v := (1 : Int32)) dX10_rowAndLive_48 (by decide) ?_
        refine AW.iadd dX10_rowAndLive_49 ?_
        refine AW.dup2 dX10_rowAndLive_50 rfl rfl ?_
        obtain ⟨h9, hf⟩ := gd_split hf
        refine TW.iald (x := (v8 77 (tn ((v8 48 13) + (1 : Int32))))) hs.k77 h9 rfl dX10_rowAndLive_51 ?_
        refine AW.aload_n dX10_rowAndLive_52 rfl ?_
        refine AW.aload_n dX10_rowAndLive_53 rfl ?_
        refine TW.getR fX10_30_10 hs.k48 (rf_some hs.r48_6) dX10_rowAndLive_54 ?_
        refine AW.aload_n dX10_rowAndLive_57 rfl ?_
        refine TW.getR fX10_33_10 hs.k48 (rf_some hs.r48_7) dX10_rowAndLive_58 ?_
        obtain ⟨h10, hf⟩ := gd_split hf
        obtain ⟨v11, gv11, hf⟩ := ob_split hf
        refine TW.invv (as := [.ref 79, .ref 80]) (rest := [.int (v8 77 (tn ((v8 48 13) + (1 : Int32)))), .int ((v8 48 13) + (1 : Int32)), .ref 77]) viX10_138_2 h10 dX10_rowAndLive_61 rfl rfl (Nat.le_of_ble_eq_true rfl) (c_X2_row hs gv11 ?_)
        show AW G mX10_rowAndLive (d + 3) 0 0 K 64 [some (.ref 48), some (.ref a3), some (.int i4), none, none] [.int v11.2, .int (v8 77 (tn ((v8 48 13) + (1 : Int32)))), .int ((v8 48 13) + (1 : Int32)), .ref 77] (v11.1, J, ρ)
        refine AW.bipush (v := (99 : Int32)) dX10_rowAndLive_64 (by decide) ?_
        obtain ⟨v12, gv12, hf⟩ := ob_split hf
        refine TW.invs (as := [.int v11.2, .int (99 : Int32)]) (rest := [.int (v8 77 (tn ((v8 48 13) + (1 : Int32)))), .int ((v8 48 13) + (1 : Int32)), .ref 77]) stX10_144 dX10_rowAndLive_66 rfl rfl (Nat.le_of_ble_eq_true rfl) (c_X10_bound hs gv12 ?_)
        show AW G mX10_rowAndLive (d + 3) 0 0 K 69 [some (.ref 48), some (.ref a3), some (.int i4), none, none] [.int v12, .int (v8 77 (tn ((v8 48 13) + (1 : Int32)))), .int ((v8 48 13) + (1 : Int32)), .ref 77] (v11.1, J, ρ)
        refine AW.iadd dX10_rowAndLive_69 ?_
        obtain ⟨x13, gx13, hf⟩ := bnd_one hf
        refine AW.nmI gx13 ?_
        obtain ⟨h14, hf⟩ := gd_split hf
        refine TW.iast hs.k77 h14 dX10_rowAndLive_70 ?_
        show AW G mX10_rowAndLive (d + 3) 0 0 K 71 [some (.ref 48), some (.ref a3), some (.int i4), none, none] [] ((u2 v11.1 77 (tn ((v8 48 13) + (1 : Int32))) x13), J, ρ)
        refine AW.aload_n dX10_rowAndLive_71 rfl ?_
        refine AW.aload_n dX10_rowAndLive_72 rfl ?_
        refine TW.getR fX10_30_10 hs.k48 (rf_some hs.r48_6) dX10_rowAndLive_73 ?_
        refine AW.aload_n dX10_rowAndLive_76 rfl ?_
        refine TW.getR fX10_33_10 hs.k48 (rf_some hs.r48_7) dX10_rowAndLive_77 ?_
        obtain ⟨v15, gv15, hf⟩ := ob_split hf
        refine TW.invv (as := [.ref 79, .ref 80]) (rest := []) viX10_147_2 h10 dX10_rowAndLive_80 rfl rfl (Nat.le_of_ble_eq_true rfl) (c_X2_need hs gv15 ?_)
        show AW G mX10_rowAndLive (d + 3) 0 0 K 83 [some (.ref 48), some (.ref a3), some (.int i4), none, none] [.int v15.2] (v15.1, J, ρ)
        refine AW.bipush (v := (20 : Int32)) dX10_rowAndLive_83 (by decide) ?_
        obtain ⟨v16, gv16, hf⟩ := ob_split hf
        refine TW.invs (as := [.int v15.2, .int (20 : Int32)]) (rest := []) stX10_144 dX10_rowAndLive_85 rfl rfl (Nat.le_of_ble_eq_true rfl) (c_X10_bound hs gv16 ?_)
        show AW G mX10_rowAndLive (d + 3) 0 0 K 88 [some (.ref 48), some (.ref a3), some (.int i4), none, none] [.int v16] (v15.1, J, ρ)
        refine AW.istore_n (ls' := [some (.ref 48), some (.ref a3), some (.int i4), some (.int v16), none]) dX10_rowAndLive_88 (Nat.le_of_ble_eq_true rfl) rfl ?_
        refine AW.aload_n dX10_rowAndLive_89 rfl ?_
        refine TW.getR fX10_16_10 hs.k48 (rf_some hs.r48_2) dX10_rowAndLive_90 ?_
        refine AW.aload_n dX10_rowAndLive_93 rfl ?_
        refine TW.getI (x := (v15.1 48 13)) fX10_77_10 hs.k48 rfl dX10_rowAndLive_94 ?_
        obtain ⟨h17, hf⟩ := gd_split hf
        have hl18 : (tn (v15.1 48 13)) < 12 := vp_lt h17
        refine TW.aald (t := 3) hs.k63 (by decide) h17 (rf_some (hs.e63 hl18)) dX10_rowAndLive_97 ?_
        refine AW.iload_n dX10_rowAndLive_98 rfl ?_
        obtain ⟨h19, hf⟩ := gd_split hf
        refine TW.iald (x := (v15.1 (64 + (tn (v15.1 48 13))) (tn i4))) (hs.ek63 hl18) h19 rfl dX10_rowAndLive_99 ?_
        refine AW.aload_n dX10_rowAndLive_100 rfl ?_
        refine AW.iload_n dX10_rowAndLive_101 rfl ?_
        obtain ⟨v20, gv20, hf⟩ := ob_split hf
        refine TW.invv (as := [.int i4]) (rest := [.int (v15.1 (64 + (tn (v15.1 48 13))) (tn i4))]) viX10_150_10 hs.k48 dX10_rowAndLive_102 rfl rfl (Nat.le_of_ble_eq_true rfl) (c_X10_fromHidden hs gv20 ?_)
        show AW G mX10_rowAndLive (d + 3) 0 0 K 105 [some (.ref 48), some (.ref a3), some (.int i4), some (.int v16), none] [.int v20.2, .int (v15.1 (64 + (tn (v15.1 48 13))) (tn i4))] (v20.1, J, ρ)
        refine AW.iadd dX10_rowAndLive_105 ?_
        obtain ⟨x21, gx21, hf⟩ := bnd_one hf
        refine AW.nmI gx21 ?_
        refine AW.istore (ls' := [some (.ref 48), some (.ref a3), some (.int i4), some (.int v16), some (.int x21)]) dX10_rowAndLive_106 (Nat.le_of_ble_eq_true rfl) rfl ?_
        refine AW.aload_n dX10_rowAndLive_108 rfl ?_
        refine TW.getR fX10_11_10 hs.k48 (rf_some hs.r48_1) dX10_rowAndLive_109 ?_
        refine AW.aload_n dX10_rowAndLive_112 rfl ?_
        refine TW.getI (x := (v20.1 48 13)) fX10_77_10 hs.k48 rfl dX10_rowAndLive_113 ?_
        refine AW.iconst (v := (1 : Int32)) dX10_rowAndLive_116 (by decide) ?_
        refine AW.iadd dX10_rowAndLive_117 ?_
        obtain ⟨h22, hf⟩ := gd_split hf
        have hl23 : (tn ((v20.1 48 13) + (1 : Int32))) < 13 := vp_lt h22
        refine TW.aald (t := 3) hs.k49 (by decide) h22 (rf_some (hs.e49 hl23)) dX10_rowAndLive_118 ?_
        refine AW.iload_n dX10_rowAndLive_119 rfl ?_
        refine AW.aload_n dX10_rowAndLive_120 rfl ?_
        refine TW.getR fX10_11_10 hs.k48 (rf_some hs.r48_1) dX10_rowAndLive_121 ?_
        refine AW.aload_n dX10_rowAndLive_124 rfl ?_
        refine TW.getI (x := (v20.1 48 13)) fX10_77_10 hs.k48 rfl dX10_rowAndLive_125 ?_
        obtain ⟨h24, hf⟩ := gd_split hf
        have hl25 : (tn (v20.1 48 13)) < 13 := vp_lt h24
        refine TW.aald (t := 3) hs.k49 (by decide) h24 (rf_some (hs.e49 hl25)) dX10_rowAndLive_128 ?_
        refine AW.iload_n dX10_rowAndLive_129 rfl ?_
        obtain ⟨h26, hf⟩ := gd_split hf
        refine TW.iald (x := (v20.1 (50 + (tn (v20.1 48 13))) (tn i4))) (hs.ek49 hl25) h26 rfl dX10_rowAndLive_130 ?_
        refine AW.iload dX10_rowAndLive_131 rfl ?_
        refine AW.iadd dX10_rowAndLive_133 ?_
        refine AW.iload_n dX10_rowAndLive_134 rfl ?_
        refine AW.isub dX10_rowAndLive_135 ?_
        refine AW.bipush (v := (99 : Int32)) dX10_rowAndLive_136 (by decide) ?_
        obtain ⟨v27, gv27, hf⟩ := ob_split hf
        refine TW.invs (as := [.int (((v20.1 (50 + (tn (v20.1 48 13))) (tn i4)) + x21) - v16), .int (99 : Int32)]) (rest := [.int i4, .ref (50 + (tn ((v20.1 48 13) + (1 : Int32))))]) stX10_144 dX10_rowAndLive_138 rfl rfl (Nat.le_of_ble_eq_true rfl) (c_X10_bound hs gv27 ?_)
        show AW G mX10_rowAndLive (d + 3) 0 0 K 141 [some (.ref 48), some (.ref a3), some (.int i4), some (.int v16), some (.int x21)] [.int v27, .int i4, .ref (50 + (tn ((v20.1 48 13) + (1 : Int32))))] (v20.1, J, ρ)
        obtain ⟨h28, hf⟩ := gd_split hf
        refine TW.iast (hs.ek49 hl23) h28 dX10_rowAndLive_141 ?_
        show AW G mX10_rowAndLive (d + 3) 0 0 K 142 [some (.ref 48), some (.ref a3), some (.int i4), some (.int v16), some (.int x21)] [] ((u2 v20.1 (50 + (tn ((v20.1 48 13) + (1 : Int32)))) (tn i4) v27), J, ρ)
        obtain rfl := Option.some.inj hf
        exact AW.weak _ (by exact (And.intro rfl (And.intro rfl (And.intro rfl trivial)))) Kj29
def f_X10_rowAndLive (N : Nat) (ρ : Rh) (I : Nat → Nat → Int32) (J : Nat → Nat → Int64) : Option ((Nat → Nat → Int32)) := (Option.bind (ρ.1 42 6) fun a1 => ((f_X10_rowAndLive_10 N J ρ a1 N I (0 : Int32)).bind fun j30 => some j30))
theorem c_X10_rowAndLive {G : Gd} {d N : Nat} {K : Ah → Option Value → Prop} {ρ : Rh} {I : Nat → Nat → Int32} {J : Nat → Nat → Int64} {o : (Nat → Nat → Int32)} (hs : Sh ρ) (hf : f_X10_rowAndLive N ρ I J = some o) (hK : K (o, J, ρ) none) : AM G (d + 3) 0 0 mX10_rowAndLive [.ref 48] (I, J, ρ) K := by
  unfold f_X10_rowAndLive at hf
  refine AM.intro okX10_rowAndLive.2.2.2.1 (Nat.le_of_ble_eq_true rfl) [some (.ref 48), none, none, none, none] rfl ?_
  refine AW.aload_n dX10_rowAndLive_0 rfl ?_
  refine TW.getR fX10_36_10 hs.k48 (rf_some hs.r48_0) dX10_rowAndLive_1 ?_
  obtain ⟨a1, ga1, hf⟩ := ob_split hf
  refine TW.getR (v := .ref a1) fX10_130_0 hs.k42 (rf_some ga1) dX10_rowAndLive_4 ?_
  refine AW.astore_n (ls' := [some (.ref 48), some (.ref a1), none, none, none]) dX10_rowAndLive_7 (Nat.le_of_ble_eq_true rfl) rfl ?_
  refine AW.iconst (v := (0 : Int32)) dX10_rowAndLive_8 (by decide) ?_
  refine AW.istore_n (ls' := [some (.ref 48), some (.ref a1), some (.int (0 : Int32)), none, none]) dX10_rowAndLive_9 (Nat.le_of_ble_eq_true rfl) rfl ?_
  obtain ⟨j30, gj30, hf⟩ := ob_split hf
  refine AW.weak _ (by exact (And.intro rfl (And.intro rfl (And.intro rfl trivial)))) (l_X10_rowAndLive_10 hs N I (0 : Int32) gj30 ?_)
  show AW G mX10_rowAndLive (d + 3) 0 0 K 148 [none, none, none, none, none] [] (j30, J, ρ)
  obtain rfl := Option.some.inj hf
  exact AW.vret (st := []) dX10_rowAndLive_148 rfl hK
def f_J7_fill_d0a16_6 (N : Nat) (I : Nat → Nat → Int32) (ρ : Rh) (a3 : Nat) (p2 : Int64) (c5 : Int32) : Nat → (Nat → Nat → Int64) → Int32 → Option ((Nat → Nat → Int64))
  | 0, _, _ => none
  | n + 1, J2, i4 => (if (c5 ≤ i4) then some J2 else (if ρ.2.1 a3 = (2, (ρ.2.1 a3).2) then (if ¬ (i4 < 0 ∨ (ρ.2.1 a3).2 ≤ tn i4) then f_J7_fill_d0a16_6 N I ρ a3 p2 c5 n (u2 J2 a3 (tn i4) p2) (i4 + (1 : Int32)) else none) else none))
theorem l_J7_fill_d0a16_6 {G : Gd} {d N : Nat} {K : Ah → Option Value → Prop} {I : Nat → Nat → Int32} {ρ : Rh} {a3 : Nat} {p2 : Int64} {c5 : Int32} (hs : Sh ρ) {o : (Nat → Nat → Int64)} : ∀ (n : Nat) (J2 : Nat → Nat → Int64) (i4 : Int32), f_J7_fill_d0a16_6 N I ρ a3 p2 c5 n J2 i4 = some o → AW G mJ7_fill_d0a16 d 0 0 K 22 [none, none, none, none, none] [] (I, o, ρ) → AW G mJ7_fill_d0a16 d 0 0 K 6 [some (.ref a3), some (.long p2), none, some (.int i4), some (.int c5)] [] (I, J2, ρ) := by
  intro n
  induction n with
  | zero => intro J2 i4 hf hE; rw [f_J7_fill_d0a16_6.eq_1] at hf; cases hf
  | succ n ih =>
    intro J2 i4 hf hE
    rw [f_J7_fill_d0a16_6.eq_2] at hf
    refine AW.iload_n dJ7_fill_d0a16_6 rfl ?_
    refine AW.iload dJ7_fill_d0a16_7 rfl ?_
    refine AW.icmp_ge (tgt := 22) dJ7_fill_d0a16_9 (by decide) (fun hc => ?_) (fun hc => ?_)
    · have hf := (if_pos hc).symm.trans hf
      obtain rfl := Option.some.inj hf
      exact AW.weak _ (by exact trivial) hE
    · have hf := (if_neg hc).symm.trans hf
      refine AW.aload_n dJ7_fill_d0a16_12 rfl ?_
      refine AW.iload_n dJ7_fill_d0a16_13 rfl ?_
      refine AW.lload_n dJ7_fill_d0a16_14 rfl ?_
      obtain ⟨h6, hf⟩ := gd_split hf
      obtain ⟨h7, hf⟩ := gd_split hf
      refine TW.last h6 h7 dJ7_fill_d0a16_15 ?_
      show AW G mJ7_fill_d0a16 d 0 0 K 16 [some (.ref a3), some (.long p2), none, some (.int i4), some (.int c5)] [] (I, (u2 J2 a3 (tn i4) p2), ρ)
      refine AW.iinc (v := (i4 + (1 : Int32))) (ls' := [some (.ref a3), some (.long p2), none, some (.int (i4 + (1 : Int32))), some (.int c5)]) dJ7_fill_d0a16_16 rfl rfl (Nat.le_of_ble_eq_true rfl) rfl ?_
      refine AW.goto (tgt := 6) dJ7_fill_d0a16_19 (by decide) ?_
      exact AW.weak _ (by exact (And.intro rfl (And.intro rfl (And.intro rfl (And.intro rfl trivial))))) (ih (u2 J2 a3 (tn i4) p2) (i4 + (1 : Int32)) hf hE)
def f_J7_fill_d0a16 (N : Nat) (ρ : Rh) (I : Nat → Nat → Int32) (J : Nat → Nat → Int64) (p1 : Nat) (p2 : Int64) : Option ((Nat → Nat → Int64)) := (if ρ.2.1 p1 = (2, (ρ.2.1 p1).2) then ((f_J7_fill_d0a16_6 N I ρ p1 p2 (Int32.ofNat (ρ.2.1 p1).2) N J (0 : Int32)).bind fun j8 => some j8) else none)
theorem c_J7_fill_d0a16 {G : Gd} {d N : Nat} {K : Ah → Option Value → Prop} {ρ : Rh} {I : Nat → Nat → Int32} {J : Nat → Nat → Int64} {p1 : Nat} {p2 : Int64} {o : (Nat → Nat → Int64)} (hs : Sh ρ) (hf : f_J7_fill_d0a16 N ρ I J p1 p2 = some o) (hK : K (I, o, ρ) none) : AM G d 0 0 mJ7_fill_d0a16 [.ref p1, .long p2] (I, J, ρ) K := by
  unfold f_J7_fill_d0a16 at hf
  refine AM.intro okJ7_fill_d0a16.2.2.2.1 (Nat.le_of_ble_eq_true rfl) [some (.ref p1), some (.long p2), none, none, none] rfl ?_
  refine AW.iconst (v := (0 : Int32)) dJ7_fill_d0a16_0 (by decide) ?_
  refine AW.istore_n (ls' := [some (.ref p1), some (.long p2), none, some (.int (0 : Int32)), none]) dJ7_fill_d0a16_1 (Nat.le_of_ble_eq_true rfl) rfl ?_
  refine AW.aload_n dJ7_fill_d0a16_2 rfl ?_
  obtain ⟨h1, hf⟩ := gd_split hf
  refine TW.alen h1 (by decide) (by decide) rfl dJ7_fill_d0a16_3 ?_
  refine AW.istore (ls' := [some (.ref p1), some (.long p2), none, some (.int (0 : Int32)), some (.int (Int32.ofNat (ρ.2.1 p1).2))]) dJ7_fill_d0a16_4 (Nat.le_of_ble_eq_true rfl) rfl ?_
  obtain ⟨j8, gj8, hf⟩ := ob_split hf
  refine AW.weak _ (by exact (And.intro rfl (And.intro rfl (And.intro rfl (And.intro rfl trivial))))) (l_J7_fill_d0a16_6 hs N J (0 : Int32) gj8 ?_)
  show AW G mJ7_fill_d0a16 d 0 0 K 22 [none, none, none, none, none] [] (I, j8, ρ)
  obtain rfl := Option.some.inj hf
  exact AW.vret (st := []) dJ7_fill_d0a16_22 rfl hK
def f_X10_addToLiving_3 (N : Nat) (I : Nat → Nat → Int32) (ρ : Rh) (p1 : Int32) (p2 : Int64) : Nat → (Nat → Nat → Int64) → Int32 → Option ((Nat → Nat → Int64))
  | 0, _, _ => none
  | n + 1, J1, i2 => (if ((I 42 0) ≤ i2) then some J1 else (if ¬ (p1 < 0 ∨ 13 ≤ tn p1) then (if ¬ (i2 < 0 ∨ 8 ≤ tn i2) then (((if ((I (50 + (tn p1)) (tn i2)) ≤ (0 : Int32)) then some J1 else (if ¬ (i2 < 0 ∨ 8 ≤ tn i2) then (if ¬ (i2 < 0 ∨ 8 ≤ tn i2) then some (u2 J1 78 (tn i2) ((J1 78 (tn i2)) + p2)) else none) else none)) : Option ((Nat → Nat → Int64))).bind fun j8 => f_X10_addToLiving_3 N I ρ p1 p2 n j8 (i2 + (1 : Int32))) else none) else none))
theorem l_X10_addToLiving_3 {G : Gd} {d N : Nat} {K : Ah → Option Value → Prop} {I : Nat → Nat → Int32} {ρ : Rh} {p1 : Int32} {p2 : Int64} (hs : Sh ρ) {o : (Nat → Nat → Int64)} : ∀ (n : Nat) (J1 : Nat → Nat → Int64) (i2 : Int32), f_X10_addToLiving_3 N I ρ p1 p2 n J1 i2 = some o → AW G mX10_addToLiving d 0 0 K 44 [none, none, none, none, none] [] (I, o, ρ) → AW G mX10_addToLiving d 0 0 K 3 [some (.ref 48), some (.int p1), some (.long p2), none, some (.int i2)] [] (I, J1, ρ) := by
  intro n
  induction n with
  | zero => intro J1 i2 hf hE; rw [f_X10_addToLiving_3.eq_1] at hf; cases hf
  | succ n ih =>
    intro J1 i2 hf hE
    rw [f_X10_addToLiving_3.eq_2] at hf
    refine AW.iload dX10_addToLiving_3 rfl ?_
    refine AW.aload_n dX10_addToLiving_5 rfl ?_
    refine TW.getR fX10_36_10 hs.k48 (rf_some hs.r48_0) dX10_addToLiving_6 ?_
    refine TW.getI (x := (I 42 0)) fX10_111_0 hs.k42 rfl dX10_addToLiving_9 ?_
    refine AW.icmp_ge (tgt := 44) dX10_addToLiving_12 (by decide) (fun hc => ?_) (fun hc => ?_)
    · have hf := (if_pos hc).symm.trans hf
      obtain rfl := Option.some.inj hf
      exact AW.weak _ (by exact trivial) hE
    · have hf := (if_neg hc).symm.trans hf
      refine AW.aload_n dX10_addToLiving_15 rfl ?_
      refine TW.getR fX10_11_10 hs.k48 (rf_some hs.r48_1) dX10_addToLiving_16 ?_
      refine AW.iload_n dX10_addToLiving_19 rfl ?_
      obtain ⟨h3, hf⟩ := gd_split hf
      have hl4 : (tn p1) < 13 := vp_lt h3
      refine TW.aald (t := 3) hs.k49 (by decide) h3 (rf_some (hs.e49 hl4)) dX10_addToLiving_20 ?_
      refine AW.iload dX10_addToLiving_21 rfl ?_
      obtain ⟨h5, hf⟩ := gd_split hf
      refine TW.iald (x := (I (50 + (tn p1)) (tn i2))) (hs.ek49 hl4) h5 rfl dX10_addToLiving_23 ?_
      obtain ⟨j8, gj8, hf⟩ := ob_split hf
      have Kj8 : AW G mX10_addToLiving d 0 0 K 38 [some (.ref 48), some (.int p1), some (.long p2), none, some (.int i2)] [] (I, j8, ρ) := by
        refine AW.iinc (v := (i2 + (1 : Int32))) (ls' := [some (.ref 48), some (.int p1), some (.long p2), none, some (.int (i2 + (1 : Int32)))]) dX10_addToLiving_38 rfl rfl (Nat.le_of_ble_eq_true rfl) rfl ?_
        refine AW.goto (tgt := 3) dX10_addToLiving_41 (by decide) ?_
        exact AW.weak _ (by exact (And.intro rfl (And.intro rfl (And.intro rfl (And.intro rfl trivial))))) (ih j8 (i2 + (1 : Int32)) hf hE)
      clear hf; have hf := gj8; clear gj8
      refine AW.if_le (tgt := 38) dX10_addToLiving_24 (by decide) (fun hc => ?_) (fun hc => ?_)
      · have hf := (if_pos hc).symm.trans hf
        obtain rfl := Option.some.inj hf
        exact AW.weak _ (by exact (And.intro rfl (And.intro rfl (And.intro rfl (And.intro rfl trivial))))) Kj8
      · have hf := (if_neg hc).symm.trans hf
        refine AW.aload_n dX10_addToLiving_27 rfl ?_
        refine TW.getR fX10_26_10 hs.k48 (rf_some hs.r48_5) dX10_addToLiving_28 ?_
        refine AW.iload dX10_addToLiving_31 rfl ?_
        refine AW.dup2 dX10_addToLiving_33 rfl rfl ?_
        obtain ⟨h6, hf⟩ := gd_split hf
        refine TW.lald (x := (J1 78 (tn i2))) hs.k78 h6 rfl dX10_addToLiving_34 ?_
        refine AW.lload_n dX10_addToLiving_35 rfl ?_
        refine AW.ladd dX10_addToLiving_36 ?_
        obtain ⟨h7, hf⟩ := gd_split hf
        refine TW.last hs.k78 h7 dX10_addToLiving_37 ?_
        show AW G mX10_addToLiving d 0 0 K 38 [some (.ref 48), some (.int p1), some (.long p2), none, some (.int i2)] [] (I, (u2 J1 78 (tn i2) ((J1 78 (tn i2)) + p2)), ρ)
        obtain rfl := Option.some.inj hf
        exact AW.weak _ (by exact (And.intro rfl (And.intro rfl (And.intro rfl (And.intro rfl trivial))))) Kj8
def f_X10_addToLiving (N : Nat) (ρ : Rh) (I : Nat → Nat → Int32) (J : Nat → Nat → Int64) (p1 : Int32) (p2 : Int64) : Option ((Nat → Nat → Int64)) := ((f_X10_addToLiving_3 N I ρ p1 p2 N J (0 : Int32)).bind fun j9 => some j9)
theorem c_X10_addToLiving {G : Gd} {d N : Nat} {K : Ah → Option Value → Prop} {ρ : Rh} {I : Nat → Nat → Int32} {J : Nat → Nat → Int64} {p1 : Int32} {p2 : Int64} {o : (Nat → Nat → Int64)} (hs : Sh ρ) (hf : f_X10_addToLiving N ρ I J p1 p2 = some o) (hK : K (I, o, ρ) none) : AM G d 0 0 mX10_addToLiving [.ref 48, .int p1, .long p2] (I, J, ρ) K := by
  unfold f_X10_addToLiving at hf
  refine AM.intro okX10_addToLiving.2.2.2.1 (Nat.le_of_ble_eq_true rfl) [some (.ref 48), some (.int p1), some (.long p2), none, none] rfl ?_
  refine AW.iconst (v := (0 : Int32)) dX10_addToLiving_0 (by decide) ?_
  refine AW.istore (ls' := [some (.ref 48), some (.int p1), some (.long p2), none, some (.int (0 : Int32))]) dX10_addToLiving_1 (Nat.le_of_ble_eq_true rfl) rfl ?_
  obtain ⟨j9, gj9, hf⟩ := ob_split hf
  refine AW.weak _ (by exact (And.intro rfl (And.intro rfl (And.intro rfl (And.intro rfl trivial))))) (l_X10_addToLiving_3 hs N J (0 : Int32) gj9 ?_)
  show AW G mX10_addToLiving d 0 0 K 44 [none, none, none, none, none] [] (I, j9, ρ)
  obtain rfl := Option.some.inj hf
  exact AW.vret (st := []) dX10_addToLiving_44 rfl hK
def f_X10_shipDays (N : Nat) (ρ : Rh) (I : Nat → Nat → Int32) (J : Nat → Nat → Int64) : Option (Int32) := (if ((I 48 16) = (-1 : Int32)) then some (I 45 0) else some ((I 48 16) + (1 : Int32)))
theorem c_X10_shipDays {G : Gd} {d N : Nat} {K : Ah → Option Value → Prop} {ρ : Rh} {I : Nat → Nat → Int32} {J : Nat → Nat → Int64} {o : Int32} (hs : Sh ρ) (hf : f_X10_shipDays N ρ I J = some o) (hK : K (I, J, ρ) (some (.int o))) : AM G d 0 0 mX10_shipDays [.ref 48] (I, J, ρ) K := by
  unfold f_X10_shipDays at hf
  refine AM.intro okX10_shipDays.2.2.2.1 (Nat.le_of_ble_eq_true rfl) [some (.ref 48)] rfl ?_
  refine AW.aload_n dX10_shipDays_0 rfl ?_
  refine TW.getI (x := (I 48 16)) fX10_66_10 hs.k48 rfl dX10_shipDays_1 ?_
  refine AW.iconst (v := (-1 : Int32)) dX10_shipDays_4 (by decide) ?_
  refine AW.icmp_ne (tgt := 20) dX10_shipDays_5 (by decide) (fun hc => ?_) (fun hc => ?_)
  · have hf := (if_neg hc).symm.trans hf
    refine AW.aload_n dX10_shipDays_20 rfl ?_
    refine TW.getI (x := (I 48 16)) fX10_66_10 hs.k48 rfl dX10_shipDays_21 ?_
    refine AW.iconst (v := (1 : Int32)) dX10_shipDays_24 (by decide) ?_
    refine AW.iadd dX10_shipDays_25 ?_
    obtain rfl := Option.some.inj hf
    exact AW.iret (st := []) dX10_shipDays_26 rfl hK
  · have hf := (if_pos hc).symm.trans hf
    refine AW.aload_n dX10_shipDays_8 rfl ?_
    refine TW.getR fX10_36_10 hs.k48 (rf_some hs.r48_0) dX10_shipDays_9 ?_
    refine TW.getR fX10_40_0 hs.k42 (rf_some hs.r42_3) dX10_shipDays_12 ?_
    refine AW.iconst (v := (0 : Int32)) dX10_shipDays_15 (by decide) ?_
    refine TW.iald (x := (I 45 0)) hs.k45 (show ¬ ((0 : Int32) < 0 ∨ 4 ≤ (0 : Int32).toNatClampNeg) by decide) rfl dX10_shipDays_16 ?_
    refine AW.goto (tgt := 26) dX10_shipDays_17 (by decide) ?_
    obtain rfl := Option.some.inj hf
    exact AW.iret (st := []) dX10_shipDays_26 rfl hK
def f_X10_sumHomes_14 (N : Nat) (I : Nat → Nat → Int32) (ρ : Rh) : Nat → (Nat → Nat → Int64) → Int64 → Int32 → Option ((Nat → Nat → Int64) × Int64)
  | 0, _, _, _ => none
  | n + 1, J2, q3, i4 => (Option.bind (f_X10_shipDays N ρ I J2) fun v5 => (if (v5 ≤ i4) then some (J2, q3) else (if ¬ (i4 < 0 ∨ 12 ≤ tn i4) then (bnd ((q3 / (10 : Int64)) * ((I 46 (tn i4)).toInt64)) fun y7 => (Option.bind (f_X10_addToLiving N ρ I J2 i4 y7) fun v8 => f_X10_sumHomes_14 N I ρ n v8 (q3 - y7) (i4 + (1 : Int32)))) else none)))
theorem l_X10_sumHomes_14 {G : Gd} {d N : Nat} {K : Ah → Option Value → Prop} {I : Nat → Nat → Int32} {ρ : Rh} (hs : Sh ρ) {o : (Nat → Nat → Int64) × Int64} : ∀ (n : Nat) (J2 : Nat → Nat → Int64) (q3 : Int64) (i4 : Int32), f_X10_sumHomes_14 N I ρ n J2 q3 i4 = some o → AW G mX10_sumHomes (d + 1) 0 0 K 58 [some (.ref 48), some (.long o.2), none, none, none, none] [] (I, o.1, ρ) → AW G mX10_sumHomes (d + 1) 0 0 K 14 [some (.ref 48), some (.long q3), none, some (.int i4), none, none] [] (I, J2, ρ) := by
  intro n
  induction n with
  | zero => intro J2 q3 i4 hf hE; rw [f_X10_sumHomes_14.eq_1] at hf; cases hf
  | succ n ih =>
    intro J2 q3 i4 hf hE
    rw [f_X10_sumHomes_14.eq_2] at hf
    refine AW.iload_n dX10_sumHomes_14 rfl ?_
    refine AW.aload_n dX10_sumHomes_15 rfl ?_
    obtain ⟨v5, gv5, hf⟩ := ob_split hf
    refine TW.invv (as := []) (rest := [.int i4]) viX10_167_10 hs.k48 dX10_sumHomes_16 rfl rfl (Nat.le_of_ble_eq_true rfl) (c_X10_shipDays hs gv5 ?_)
    show AW G mX10_sumHomes (d + 1) 0 0 K 19 [some (.ref 48), some (.long q3), none, some (.int i4), none, none] [.int v5, .int i4] (I, J2, ρ)
    refine AW.icmp_ge (tgt := 58) dX10_sumHomes_19 (by decide) (fun hc => ?_) (fun hc => ?_)
    · have hf := (if_pos hc).symm.trans hf
      obtain rfl := Option.some.inj hf
      exact AW.weak _ (by exact (And.intro rfl (And.intro rfl trivial))) hE
    · have hf := (if_neg hc).symm.trans hf
      refine AW.lload_n dX10_sumHomes_22 rfl ?_
      refine AW.ldc2 dX10_sumHomes_23 kcX10_171 ?_
      refine AW.ldiv (hne := (by decide)) dX10_sumHomes_26 ?_
      refine AW.aload_n dX10_sumHomes_27 rfl ?_
      refine TW.getR fX10_36_10 hs.k48 (rf_some hs.r48_0) dX10_sumHomes_28 ?_
      refine TW.getR fX10_173_0 hs.k42 (rf_some hs.r42_4) dX10_sumHomes_31 ?_
      refine AW.iload_n dX10_sumHomes_34 rfl ?_
      obtain ⟨h6, hf⟩ := gd_split hf
      refine TW.iald (x := (I 46 (tn i4))) hs.k46 h6 rfl dX10_sumHomes_35 ?_
      refine AW.i2l dX10_sumHomes_36 ?_
      refine AW.lmul dX10_sumHomes_37 ?_
      obtain ⟨y7, gy7, hf⟩ := bnd_one hf
      refine AW.nmJ gy7 ?_
      refine AW.lstore (ls' := [some (.ref 48), some (.long q3), none, some (.int i4), some (.long y7), none]) dX10_sumHomes_38 (Nat.le_of_ble_eq_true rfl) rfl ?_
      refine AW.aload_n dX10_sumHomes_40 rfl ?_
      refine AW.iload_n dX10_sumHomes_41 rfl ?_
      refine AW.lload dX10_sumHomes_42 rfl ?_
      obtain ⟨v8, gv8, hf⟩ := ob_split hf
      refine TW.invv (as := [.int i4, .long y7]) (rest := []) viX10_176_10 hs.k48 dX10_sumHomes_44 rfl rfl (Nat.le_of_ble_eq_true rfl) (c_X10_addToLiving hs gv8 ?_)
      show AW G mX10_sumHomes (d + 1) 0 0 K 47 [some (.ref 48), some (.long q3), none, some (.int i4), some (.long y7), none] [] (I, v8, ρ)
      refine AW.lload_n dX10_sumHomes_47 rfl ?_
      refine AW.lload dX10_sumHomes_48 rfl ?_
      refine AW.lsub dX10_sumHomes_50 ?_
      refine AW.lstore_n (ls' := [some (.ref 48), some (.long (q3 - y7)), none, some (.int i4), some (.long y7), none]) dX10_sumHomes_51 (Nat.le_of_ble_eq_true rfl) rfl ?_
      refine AW.iinc (v := (i4 + (1 : Int32))) (ls' := [some (.ref 48), some (.long (q3 - y7)), none, some (.int (i4 + (1 : Int32))), some (.long y7), none]) dX10_sumHomes_52 rfl rfl (Nat.le_of_ble_eq_true rfl) rfl ?_
      refine AW.goto (tgt := 14) dX10_sumHomes_55 (by decide) ?_
      exact AW.weak _ (by exact (And.intro rfl (And.intro rfl (And.intro rfl trivial)))) (ih v8 (q3 - y7) (i4 + (1 : Int32)) hf hE)
def f_X10_sumHomes (N : Nat) (ρ : Rh) (I : Nat → Nat → Int32) (J : Nat → Nat → Int64) : Option ((Nat → Nat → Int64)) := (Option.bind (f_J7_fill_d0a16 N ρ I J 78 (0 : Int64)) fun v1 => ((f_X10_sumHomes_14 N I ρ N v1 (1000000000000 : Int64) (0 : Int32)).bind fun j9 => (if ((I 48 16) = (-1 : Int32)) then some j9.1 else (Option.bind (f_X10_addToLiving N ρ I j9.1 ((I 48 16) + (1 : Int32)) j9.2) fun v10 => some v10))))
theorem c_X10_sumHomes {G : Gd} {d N : Nat} {K : Ah → Option Value → Prop} {ρ : Rh} {I : Nat → Nat → Int32} {J : Nat → Nat → Int64} {o : (Nat → Nat → Int64)} (hs : Sh ρ) (hf : f_X10_sumHomes N ρ I J = some o) (hK : K (I, o, ρ) none) : AM G (d + 1) 0 0 mX10_sumHomes [.ref 48] (I, J, ρ) K := by
  unfold f_X10_sumHomes at hf
  refine AM.intro okX10_sumHomes.2.2.2.1 (Nat.le_of_ble_eq_true rfl) [some (.ref 48), none, none, none, none, none] rfl ?_
  refine AW.aload_n dX10_sumHomes_0 rfl ?_
  refine TW.getR fX10_26_10 hs.k48 (rf_some hs.r48_5) dX10_sumHomes_1 ?_
  refine AW.lconst (v := (0 : Int64)) dX10_sumHomes_4 (by decide) ?_
  obtain ⟨v1, gv1, hf⟩ := ob_split hf
  refine TW.invs (as := [.ref 78, .long (0 : Int64)]) (rest := []) stX10_162 dX10_sumHomes_5 rfl rfl (Nat.le_of_ble_eq_true rfl) (c_J7_fill_d0a16 hs gv1 ?_)
  show AW G mX10_sumHomes (d + 1) 0 0 K 8 [some (.ref 48), none, none, none, none, none] [] (I, v1, ρ)
  refine AW.ldc2 dX10_sumHomes_8 kcX10_165 ?_
  refine AW.lstore_n (ls' := [some (.ref 48), some (.long (1000000000000 : Int64)), none, none, none, none]) dX10_sumHomes_11 (Nat.le_of_ble_eq_true rfl) rfl ?_
  refine AW.iconst (v := (0 : Int32)) dX10_sumHomes_12 (by decide) ?_
  refine AW.istore_n (ls' := [some (.ref 48), some (.long (1000000000000 : Int64)), none, some (.int (0 : Int32)), none, none]) dX10_sumHomes_13 (Nat.le_of_ble_eq_true rfl) rfl ?_
  obtain ⟨j9, gj9, hf⟩ := ob_split hf
  refine AW.weak _ (by exact (And.intro rfl (And.intro rfl (And.intro rfl trivial)))) (l_X10_sumHomes_14 hs N v1 (1000000000000 : Int64) (0 : Int32) gj9 ?_)
  show AW G mX10_sumHomes (d + 1) 0 0 K 58 [some (.ref 48), some (.long j9.2), none, none, none, none] [] (I, j9.1, ρ)
  refine AW.aload_n dX10_sumHomes_58 rfl ?_
  refine TW.getI (x := (I 48 16)) fX10_66_10 hs.k48 rfl dX10_sumHomes_59 ?_
  refine AW.iconst (v := (-1 : Int32)) dX10_sumHomes_62 (by decide) ?_
  refine AW.icmp_eq (tgt := 77) dX10_sumHomes_63 (by decide) (fun hc => ?_) (fun hc => ?_)
  · have hf := (if_pos hc).symm.trans hf
    obtain rfl := Option.some.inj hf
    exact AW.vret (st := []) dX10_sumHomes_77 rfl hK
  · have hf := (if_neg hc).symm.trans hf
    refine AW.aload_n dX10_sumHomes_66 rfl ?_
    refine AW.aload_n dX10_sumHomes_67 rfl ?_
    refine TW.getI (x := (I 48 16)) fX10_66_10 hs.k48 rfl dX10_sumHomes_68 ?_
    refine AW.iconst (v := (1 : Int32)) dX10_sumHomes_71 (by decide) ?_
    refine AW.iadd dX10_sumHomes_72 ?_
    refine AW.lload_n dX10_sumHomes_73 rfl ?_
    obtain ⟨v10, gv10, hf⟩ := ob_split hf
    refine TW.invv (as := [.int ((I 48 16) + (1 : Int32)), .long j9.2]) (rest := []) viX10_176_10 hs.k48 dX10_sumHomes_74 rfl rfl (Nat.le_of_ble_eq_true rfl) (c_X10_addToLiving hs gv10 ?_)
    show AW G mX10_sumHomes (d + 1) 0 0 K 77 [some (.ref 48), some (.long j9.2), none, none, none, none] [] (I, v10, ρ)
    obtain rfl := Option.some.inj hf
    exact AW.vret (st := []) dX10_sumHomes_77 rfl hK
def f_X10_sailAs_77 (N : Nat) (J : Nat → Nat → Int64) (ρ : Rh) : Nat → (Nat → Nat → Int32) → Int32 → Option ((Nat → Nat → Int32))
  | 0, _, _ => none
  | n + 1, I2, i3 => (if ((12 : Int32) ≤ i3) then some I2 else (if ((I2 45 0) ≤ i3) then some I2 else (Option.bind (f_X10_carryOver N ρ (u2 I2 48 13 i3) J) fun v4 => (((if ((v4 48 16) = (-1 : Int32)) then (Option.bind (f_X10_living N ρ v4 J i3) fun v5 => (if (v5 ≤ (0 : Int32)) then some v4 else (if ¬ (i3 < 0 ∨ 13 ≤ tn i3) then (if ¬ (i3 < 0 ∨ 12 ≤ tn i3) then (bnd (if ((v4 76 (tn i3)) + (v4 47 (tn i3))) < (9999 : Int32) then ((v4 76 (tn i3)) + (v4 47 (tn i3))) else (9999 : Int32)) fun x8 => (if ¬ ((i3 + (1 : Int32)) < 0 ∨ 13 ≤ tn (i3 + (1 : Int32))) then (Option.bind (f_X10_drink N ρ (u2 v4 76 (tn (i3 + (1 : Int32))) x8) J) fun v10 => (Option.bind (f_X10_rowAndLive N ρ v10 J) fun v11 => (if ¬ ((i3 + (1 : Int32)) < 0 ∨ 13 ≤ tn (i3 + (1 : Int32))) then (if ((v11 77 (tn (i3 + (1 : Int32)))) < (v11 45 3)) then some v11 else (Option.bind (f_X10_living N ρ v11 J (i3 + (1 : Int32))) fun v13 => (if (v13 ≤ (0 : Int32)) then some v11 else some (u2 v11 48 16 i3)))) else none))) else none)) else none) else none))) else some v4) : Option ((Nat → Nat → Int32))).bind fun j14 => f_X10_sailAs_77 N J ρ n j14 (i3 + (1 : Int32))))))
theorem l_X10_sailAs_77 {G : Gd} {d N : Nat} {K : Ah → Option Value → Prop} {J : Nat → Nat → Int64} {ρ : Rh} (hs : Sh ρ) {o : (Nat → Nat → Int32)} : ∀ (n : Nat) (I2 : Nat → Nat → Int32) (i3 : Int32), f_X10_sailAs_77 N J ρ n I2 i3 = some o → AW G mX10_sailAs (d + 4) 0 0 K 210 [some (.ref 48), none, none, none, none, none, none] [] (o, J, ρ) → AW G mX10_sailAs (d + 4) 0 0 K 77 [some (.ref 48), none, none, none, none, none, some (.int i3)] [] (I2, J, ρ) := by
  intro n
  induction n with
  | zero => intro I2 i3 hf hE; rw [f_X10_sailAs_77.eq_1] at hf; cases hf
  | succ n ih =>
    intro I2 i3 hf hE
    rw [f_X10_sailAs_77.eq_2] at hf
    refine AW.iload dX10_sailAs_77 rfl ?_
    refine AW.bipush (v := (12 : Int32)) dX10_sailAs_79 (by decide) ?_
    refine AW.icmp_ge (tgt := 210) dX10_sailAs_81 (by decide) (fun hc => ?_) (fun hc => ?_)
    · have hf := (if_pos hc).symm.trans hf
      obtain rfl := Option.some.inj hf
      exact AW.weak _ (by exact (And.intro rfl trivial)) hE
    · have hf := (if_neg hc).symm.trans hf
      refine AW.iload dX10_sailAs_84 rfl ?_
      refine AW.aload_n dX10_sailAs_86 rfl ?_
      refine TW.getR fX10_36_10 hs.k48 (rf_some hs.r48_0) dX10_sailAs_87 ?_
      refine TW.getR fX10_40_0 hs.k42 (rf_some hs.r42_3) dX10_sailAs_90 ?_
      refine AW.iconst (v := (0 : Int32)) dX10_sailAs_93 (by decide) ?_
      refine TW.iald (x := (I2 45 0)) hs.k45 (show ¬ ((0 : Int32) < 0 ∨ 4 ≤ (0 : Int32).toNatClampNeg) by decide) rfl dX10_sailAs_94 ?_
      refine AW.icmp_ge (tgt := 210) dX10_sailAs_95 (by decide) (fun hc => ?_) (fun hc => ?_)
      · have hf := (if_pos hc).symm.trans hf
        obtain rfl := Option.some.inj hf
        exact AW.weak _ (by exact (And.intro rfl trivial)) hE
      · have hf := (if_neg hc).symm.trans hf
        refine AW.aload_n dX10_sailAs_98 rfl ?_
        refine AW.iload dX10_sailAs_99 rfl ?_
        refine TW.putI fX10_77_10 hs.k48 (Or.inl rfl) dX10_sailAs_101 ?_
        show AW G mX10_sailAs (d + 4) 0 0 K 104 [some (.ref 48), none, none, none, none, none, some (.int i3)] [] ((u2 I2 48 13 i3), J, ρ)
        refine AW.aload_n dX10_sailAs_104 rfl ?_
        obtain ⟨v4, gv4, hf⟩ := ob_split hf
        refine TW.invv (as := []) (rest := []) viX10_80_10 hs.k48 dX10_sailAs_105 rfl rfl (Nat.le_of_ble_eq_true rfl) (c_X10_carryOver hs gv4 ?_)
        show AW G mX10_sailAs (d + 4) 0 0 K 108 [some (.ref 48), none, none, none, none, none, some (.int i3)] [] (v4, J, ρ)
        refine AW.aload_n dX10_sailAs_108 rfl ?_
        refine TW.getI (x := (v4 48 16)) fX10_66_10 hs.k48 rfl dX10_sailAs_109 ?_
        refine AW.iconst (v := (-1 : Int32)) dX10_sailAs_112 (by decide) ?_
        obtain ⟨j14, gj14, hf⟩ := ob_split hf
        have Kj14 : AW G mX10_sailAs (d + 4) 0 0 K 204 [some (.ref 48), none, none, none, none, none, some (.int i3)] [] (j14, J, ρ) := by
          refine AW.iinc (v := (i3 + (1 : Int32))) (ls' := [some (.ref 48), none, none, none, none, none, some (.int (i3 + (1 : Int32)))]) dX10_sailAs_204 rfl rfl (Nat.le_of_ble_eq_true rfl) rfl ?_
          refine AW.goto (tgt := 77) dX10_sailAs_207 (by decide) ?_
          exact AW.weak _ (by exact (And.intro rfl (And.intro rfl trivial))) (ih j14 (i3 + (1 : Int32)) hf hE)
        clear hf; have hf := gj14; clear gj14
        refine AW.icmp_ne (tgt := 204) dX10_sailAs_113 (by decide) (fun hc => ?_) (fun hc => ?_)
        · have hf := (if_neg hc).symm.trans hf
          obtain rfl := Option.some.inj hf
          exact AW.weak _ (by exact (And.intro rfl (And.intro rfl trivial))) Kj14
        · have hf := (if_pos hc).symm.trans hf
          refine AW.aload_n dX10_sailAs_116 rfl ?_
          refine AW.iload dX10_sailAs_117 rfl ?_
          obtain ⟨v5, gv5, hf⟩ := ob_split hf
          refine TW.invv (as := [.int i3]) (rest := []) viX10_83_10 hs.k48 dX10_sailAs_119 rfl rfl (Nat.le_of_ble_eq_true rfl) (c_X10_living hs gv5 ?_)
          show AW G mX10_sailAs (d + 4) 0 0 K 122 [some (.ref 48), none, none, none, none, none, some (.int i3)] [.int v5] (v4, J, ρ)
          refine AW.if_le (tgt := 204) dX10_sailAs_122 (by decide) (fun hc => ?_) (fun hc => ?_)
          · have hf := (if_pos hc).symm.trans hf
            obtain rfl := Option.some.inj hf
            exact AW.weak _ (by exact (And.intro rfl (And.intro rfl trivial))) Kj14
          · have hf := (if_neg hc).symm.trans hf
            refine AW.aload_n dX10_sailAs_125 rfl ?_
            refine TW.getR fX10_19_10 hs.k48 (rf_some hs.r48_3) dX10_sailAs_126 ?_
            refine AW.iload dX10_sailAs_129 rfl ?_
            refine AW.iconst (v := (1 : Int32)) dX10_sailAs_131 (by decide) ?_
            refine AW.iadd dX10_sailAs_132 ?_
            refine AW.sipush (v := (9999 : Int32)) dX10_sailAs_133 (by decide) ?_
            refine AW.aload_n dX10_sailAs_136 rfl ?_
            refine TW.getR fX10_19_10 hs.k48 (rf_some hs.r48_3) dX10_sailAs_137 ?_
            refine AW.iload dX10_sailAs_140 rfl ?_
            obtain ⟨h6, hf⟩ := gd_split hf
            refine TW.iald (x := (v4 76 (tn i3))) hs.k76 h6 rfl dX10_sailAs_142 ?_
            refine AW.aload_n dX10_sailAs_143 rfl ?_
            refine TW.getR fX10_36_10 hs.k48 (rf_some hs.r48_0) dX10_sailAs_144 ?_
            refine TW.getR fX10_87_0 hs.k42 (rf_some hs.r42_5) dX10_sailAs_147 ?_
            refine AW.iload dX10_sailAs_150 rfl ?_
            obtain ⟨h7, hf⟩ := gd_split hf
            refine TW.iald (x := (v4 47 (tn i3))) hs.k47 h7 rfl dX10_sailAs_152 ?_
            refine AW.iadd dX10_sailAs_153 ?_
            refine AW.mmin mtX10_90 dX10_sailAs_154 (Nat.le_of_ble_eq_true rfl) ?_
            obtain ⟨x8, gx8, hf⟩ := bnd_one hf
            refine AW.nmI gx8 ?_
            obtain ⟨h9, hf⟩ := gd_split hf
            refine TW.iast hs.k76 h9 dX10_sailAs_157 ?_
            show AW G mX10_sailAs (d + 4) 0 0 K 158 [some (.ref 48), none, none, none, none, none, some (.int i3)] [] ((u2 v4 76 (tn (i3 + (1 : Int32))) x8), J, ρ)
            refine AW.aload_n dX10_sailAs_158 rfl ?_
            obtain ⟨v10, gv10, hf⟩ := ob_split hf
            refine TW.invv (as := []) (rest := []) viX10_96_10 hs.k48 dX10_sailAs_159 rfl rfl (Nat.le_of_ble_eq_true rfl) (c_X10_drink hs gv10 ?_)
            show AW G mX10_sailAs (d + 4) 0 0 K 162 [some (.ref 48), none, none, none, none, none, some (.int i3)] [] (v10, J, ρ)
            refine AW.aload_n dX10_sailAs_162 rfl ?_
            obtain ⟨v11, gv11, hf⟩ := ob_split hf
            refine TW.invv (as := []) (rest := []) viX10_99_10 hs.k48 dX10_sailAs_163 rfl rfl (Nat.le_of_ble_eq_true rfl) (c_X10_rowAndLive hs gv11 ?_)
            show AW G mX10_sailAs (d + 4) 0 0 K 166 [some (.ref 48), none, none, none, none, none, some (.int i3)] [] (v11, J, ρ)
            refine AW.aload_n dX10_sailAs_166 rfl ?_
            refine TW.getR fX10_23_10 hs.k48 (rf_some hs.r48_4) dX10_sailAs_167 ?_
            refine AW.iload dX10_sailAs_170 rfl ?_
            refine AW.iconst (v := (1 : Int32)) dX10_sailAs_172 (by decide) ?_
            refine AW.iadd dX10_sailAs_173 ?_
            obtain ⟨h12, hf⟩ := gd_split hf
            refine TW.iald (x := (v11 77 (tn (i3 + (1 : Int32))))) hs.k77 h12 rfl dX10_sailAs_174 ?_
            refine AW.aload_n dX10_sailAs_175 rfl ?_
            refine TW.getR fX10_36_10 hs.k48 (rf_some hs.r48_0) dX10_sailAs_176 ?_
            refine TW.getR fX10_40_0 hs.k42 (rf_some hs.r42_3) dX10_sailAs_179 ?_
            refine AW.iconst (v := (3 : Int32)) dX10_sailAs_182 (by decide) ?_
            refine TW.iald (x := (v11 45 3)) hs.k45 (show ¬ ((3 : Int32) < 0 ∨ 4 ≤ (3 : Int32).toNatClampNeg) by decide) rfl dX10_sailAs_183 ?_
            refine AW.icmp_lt (tgt := 204) dX10_sailAs_184 (by decide) (fun hc => ?_) (fun hc => ?_)
            · have hf := (if_pos hc).symm.trans hf
              obtain rfl := Option.some.inj hf
              exact AW.weak _ (by exact (And.intro rfl (And.intro rfl trivial))) Kj14
            · have hf := (if_neg hc).symm.trans hf
              refine AW.aload_n dX10_sailAs_187 rfl ?_
              refine AW.iload dX10_sailAs_188 rfl ?_
              refine AW.iconst (v := (1 : Int32)) dX10_sailAs_190 (by decide) ?_
              refine AW.iadd dX10_sailAs_191 ?_
              obtain ⟨v13, gv13, hf⟩ := ob_split hf
              refine TW.invv (as := [.int (i3 + (1 : Int32))]) (rest := []) viX10_83_10 hs.k48 dX10_sailAs_192 rfl rfl (Nat.le_of_ble_eq_true rfl) (c_X10_living hs gv13 ?_)
              show AW G mX10_sailAs (d + 4) 0 0 K 195 [some (.ref 48), none, none, none, none, none, some (.int i3)] [.int v13] (v11, J, ρ)
              refine AW.if_le (tgt := 204) dX10_sailAs_195 (by decide) (fun hc => ?_) (fun hc => ?_)
              · have hf := (if_pos hc).symm.trans hf
                obtain rfl := Option.some.inj hf
                exact AW.weak _ (by exact (And.intro rfl (And.intro rfl trivial))) Kj14
              · have hf := (if_neg hc).symm.trans hf
                refine AW.aload_n dX10_sailAs_198 rfl ?_
                refine AW.iload dX10_sailAs_199 rfl ?_
                refine TW.putI fX10_66_10 hs.k48 (Or.inl rfl) dX10_sailAs_201 ?_
                show AW G mX10_sailAs (d + 4) 0 0 K 204 [some (.ref 48), none, none, none, none, none, some (.int i3)] [] ((u2 v11 48 16 i3), J, ρ)
                obtain rfl := Option.some.inj hf
                exact AW.weak _ (by exact (And.intro rfl (And.intro rfl trivial))) Kj14
def f_X10_sailAs (N : Nat) (ρ : Rh) (I : Nat → Nat → Int32) (J : Nat → Nat → Int64) (p1 : Nat) (p2 : Int32) (p3 : Int32) (p4 : Int32) (p5 : Int32) : Option ((Nat → Nat → Int32) × (Nat → Nat → Int64) × (Rh)) := ((f_X10_sailAs_77 N J (u2 ρ.1 48 8 (some p1), ρ.2) N (u2 (u2 (up (u2 (u2 (u2 (u2 (u2 I 48 9 p2) 48 10 p3) 48 11 p4) 48 12 p5) 48 16 (-1 : Int32)) 50 (cpy ((u2 (u2 (u2 (u2 (u2 I 48 9 p2) 48 10 p3) 48 11 p4) 48 12 p5) 48 16 (-1 : Int32)) 43) ((u2 (u2 (u2 (u2 (u2 I 48 9 p2) 48 10 p3) 48 11 p4) 48 12 p5) 48 16 (-1 : Int32)) 50) (tn (0 : Int32)) (tn (0 : Int32)) (tn (8 : Int32)))) 76 0 (I 45 1)) 77 0 (0 : Int32)) (0 : Int32)).bind fun j15 => (Option.bind (f_X10_sumHomes N (u2 ρ.1 48 8 (some p1), ρ.2) j15 J) fun v16 => some (j15, v16, (u2 ρ.1 48 8 (some p1), ρ.2))))
theorem c_X10_sailAs {G : Gd} {d N : Nat} {K : Ah → Option Value → Prop} {ρ : Rh} {I : Nat → Nat → Int32} {J : Nat → Nat → Int64} {p1 : Nat} {p2 : Int32} {p3 : Int32} {p4 : Int32} {p5 : Int32} {o : (Nat → Nat → Int32) × (Nat → Nat → Int64) × (Rh)} (hs : Sh ρ) (hf : f_X10_sailAs N ρ I J p1 p2 p3 p4 p5 = some o) (hK : (Sh o.2.2 → K (o.1, o.2.1, o.2.2) none)) : AM G (d + 4) 0 0 mX10_sailAs [.ref 48, .ref p1, .int p2, .int p3, .int p4, .int p5] (I, J, ρ) K := by
  unfold f_X10_sailAs at hf
  refine AM.intro okX10_sailAs.2.2.2.1 (Nat.le_of_ble_eq_true rfl) [some (.ref 48), some (.ref p1), some (.int p2), some (.int p3), some (.int p4), some (.int p5), none] rfl ?_
  refine AW.aload_n dX10_sailAs_0 rfl ?_
  refine AW.aload_n dX10_sailAs_1 rfl ?_
  refine TW.putR (o := (some p1)) fX10_49_10 hs.k48 rfl (Or.inl rfl) dX10_sailAs_2 ?_
  have hs := Sh.put hs 48 8 (some p1) (by decide) (by decide)
  show AW G mX10_sailAs (d + 4) 0 0 K 5 [some (.ref 48), some (.ref p1), some (.int p2), some (.int p3), some (.int p4), some (.int p5), none] [] (I, J, (u2 ρ.1 48 8 (some p1), ρ.2))
  refine AW.aload_n dX10_sailAs_5 rfl ?_
  refine AW.iload_n dX10_sailAs_6 rfl ?_
  refine TW.putI fX10_53_10 hs.k48 (Or.inl rfl) dX10_sailAs_7 ?_
  show AW G mX10_sailAs (d + 4) 0 0 K 10 [some (.ref 48), some (.ref p1), some (.int p2), some (.int p3), some (.int p4), some (.int p5), none] [] ((u2 I 48 9 p2), J, (u2 ρ.1 48 8 (some p1), ρ.2))
  refine AW.aload_n dX10_sailAs_10 rfl ?_
  refine AW.iload_n dX10_sailAs_11 rfl ?_
  refine TW.putI fX10_57_10 hs.k48 (Or.inl rfl) dX10_sailAs_12 ?_
  show AW G mX10_sailAs (d + 4) 0 0 K 15 [some (.ref 48), some (.ref p1), some (.int p2), some (.int p3), some (.int p4), some (.int p5), none] [] ((u2 (u2 I 48 9 p2) 48 10 p3), J, (u2 ρ.1 48 8 (some p1), ρ.2))
  refine AW.aload_n dX10_sailAs_15 rfl ?_
  refine AW.iload dX10_sailAs_16 rfl ?_
  refine TW.putI fX10_60_10 hs.k48 (Or.inl rfl) dX10_sailAs_18 ?_
  show AW G mX10_sailAs (d + 4) 0 0 K 21 [some (.ref 48), some (.ref p1), some (.int p2), some (.int p3), some (.int p4), some (.int p5), none] [] ((u2 (u2 (u2 I 48 9 p2) 48 10 p3) 48 11 p4), J, (u2 ρ.1 48 8 (some p1), ρ.2))
  refine AW.aload_n dX10_sailAs_21 rfl ?_
  refine AW.iload dX10_sailAs_22 rfl ?_
  refine TW.putI fX10_63_10 hs.k48 (Or.inl rfl) dX10_sailAs_24 ?_
  show AW G mX10_sailAs (d + 4) 0 0 K 27 [some (.ref 48), some (.ref p1), some (.int p2), some (.int p3), some (.int p4), some (.int p5), none] [] ((u2 (u2 (u2 (u2 I 48 9 p2) 48 10 p3) 48 11 p4) 48 12 p5), J, (u2 ρ.1 48 8 (some p1), ρ.2))
  refine AW.aload_n dX10_sailAs_27 rfl ?_
  refine AW.iconst (v := (-1 : Int32)) dX10_sailAs_28 (by decide) ?_
  refine TW.putI fX10_66_10 hs.k48 (Or.inl rfl) dX10_sailAs_29 ?_
  show AW G mX10_sailAs (d + 4) 0 0 K 32 [some (.ref 48), some (.ref p1), some (.int p2), some (.int p3), some (.int p4), some (.int p5), none] [] ((u2 (u2 (u2 (u2 (u2 I 48 9 p2) 48 10 p3) 48 11 p4) 48 12 p5) 48 16 (-1 : Int32)), J, (u2 ρ.1 48 8 (some p1), ρ.2))
  refine AW.aload_n dX10_sailAs_32 rfl ?_
  refine TW.getR fX10_36_10 hs.k48 (rf_some hs.r48_0) dX10_sailAs_33 ?_
  refine TW.getR fX10_69_0 hs.k42 (rf_some hs.r42_1) dX10_sailAs_36 ?_
  refine AW.iconst (v := (0 : Int32)) dX10_sailAs_39 (by decide) ?_
  refine AW.aload_n dX10_sailAs_40 rfl ?_
  refine TW.getR fX10_11_10 hs.k48 (rf_some hs.r48_1) dX10_sailAs_41 ?_
  refine AW.iconst (v := (0 : Int32)) dX10_sailAs_44 (by decide) ?_
  have hl1 : 0 < 13 := by decide
  refine TW.aald (t := 3) hs.k49 (by decide) (show ¬ ((0 : Int32) < 0 ∨ 13 ≤ (0 : Int32).toNatClampNeg) by decide) (rf_some (hs.e49 hl1)) dX10_sailAs_45 ?_
  refine AW.iconst (v := (0 : Int32)) dX10_sailAs_46 (by decide) ?_
  refine AW.bipush (v := (8 : Int32)) dX10_sailAs_47 (by decide) ?_
  refine TW.copyI cpX10_71 hs.k43 hs.k50 (by decide) (by decide) (by decide) (by decide) (by decide) (Nat.le_of_ble_eq_true rfl) dX10_sailAs_49 ?_
  show AW G mX10_sailAs (d + 4) 0 0 K 52 [some (.ref 48), some (.ref p1), some (.int p2), some (.int p3), some (.int p4), some (.int p5), none] [] ((up (u2 (u2 (u2 (u2 (u2 I 48 9 p2) 48 10 p3) 48 11 p4) 48 12 p5) 48 16 (-1 : Int32)) 50 (cpy ((u2 (u2 (u2 (u2 (u2 I 48 9 p2) 48 10 p3) 48 11 p4) 48 12 p5) 48 16 (-1 : Int32)) 43) ((u2 (u2 (u2 (u2 (u2 I 48 9 p2) 48 10 p3) 48 11 p4) 48 12 p5) 48 16 (-1 : Int32)) 50) (tn (0 : Int32)) (tn (0 : Int32)) (tn (8 : Int32)))), J, (u2 ρ.1 48 8 (some p1), ρ.2))
  refine AW.aload_n dX10_sailAs_52 rfl ?_
  refine TW.getR fX10_19_10 hs.k48 (rf_some hs.r48_3) dX10_sailAs_53 ?_
  refine AW.iconst (v := (0 : Int32)) dX10_sailAs_56 (by decide) ?_
  refine AW.aload_n dX10_sailAs_57 rfl ?_
  refine TW.getR fX10_36_10 hs.k48 (rf_some hs.r48_0) dX10_sailAs_58 ?_
  refine TW.getR fX10_40_0 hs.k42 (rf_some hs.r42_3) dX10_sailAs_61 ?_
  refine AW.iconst (v := (1 : Int32)) dX10_sailAs_64 (by decide) ?_
  refine TW.iald (x := (I 45 1)) hs.k45 (show ¬ ((1 : Int32) < 0 ∨ 4 ≤ (1 : Int32).toNatClampNeg) by decide) ((upj_ne (by decide)).trans ((u2_ne (by decide)).trans ((u2_ne (by decide)).trans ((u2_ne (by decide)).trans ((u2_ne (by decide)).trans (u2_ne (by decide))))))) dX10_sailAs_65 ?_
  refine TW.iast hs.k76 (show ¬ ((0 : Int32) < 0 ∨ 13 ≤ (0 : Int32).toNatClampNeg) by decide) dX10_sailAs_66 ?_
  show AW G mX10_sailAs (d + 4) 0 0 K 67 [some (.ref 48), some (.ref p1), some (.int p2), some (.int p3), some (.int p4), some (.int p5), none] [] ((u2 (up (u2 (u2 (u2 (u2 (u2 I 48 9 p2) 48 10 p3) 48 11 p4) 48 12 p5) 48 16 (-1 : Int32)) 50 (cpy ((u2 (u2 (u2 (u2 (u2 I 48 9 p2) 48 10 p3) 48 11 p4) 48 12 p5) 48 16 (-1 : Int32)) 43) ((u2 (u2 (u2 (u2 (u2 I 48 9 p2) 48 10 p3) 48 11 p4) 48 12 p5) 48 16 (-1 : Int32)) 50) (tn (0 : Int32)) (tn (0 : Int32)) (tn (8 : Int32)))) 76 0 (I 45 1)), J, (u2 ρ.1 48 8 (some p1), ρ.2))
  refine AW.aload_n dX10_sailAs_67 rfl ?_
  refine TW.getR fX10_23_10 hs.k48 (rf_some hs.r48_4) dX10_sailAs_68 ?_
  refine AW.iconst (v := (0 : Int32)) dX10_sailAs_71 (by decide) ?_
  refine AW.iconst (v := (0 : Int32)) dX10_sailAs_72 (by decide) ?_
  refine TW.iast hs.k77 (show ¬ ((0 : Int32) < 0 ∨ 13 ≤ (0 : Int32).toNatClampNeg) by decide) dX10_sailAs_73 ?_
  show AW G mX10_sailAs (d + 4) 0 0 K 74 [some (.ref 48), some (.ref p1), some (.int p2), some (.int p3), some (.int p4), some (.int p5), none] [] ((u2 (u2 (up (u2 (u2 (u2 (u2 (u2 I 48 9 p2) 48 10 p3) 48 11 p4) 48 12 p5) 48 16 (-1 : Int32)) 50 (cpy ((u2 (u2 (u2 (u2 (u2 I 48 9 p2) 48 10 p3) 48 11 p4) 48 12 p5) 48 16 (-1 : Int32)) 43) ((u2 (u2 (u2 (u2 (u2 I 48 9 p2) 48 10 p3) 48 11 p4) 48 12 p5) 48 16 (-1 : Int32)) 50) (tn (0 : Int32)) (tn (0 : Int32)) (tn (8 : Int32)))) 76 0 (I 45 1)) 77 0 (0 : Int32)), J, (u2 ρ.1 48 8 (some p1), ρ.2))
  refine AW.iconst (v := (0 : Int32)) dX10_sailAs_74 (by decide) ?_
  refine AW.istore (ls' := [some (.ref 48), some (.ref p1), some (.int p2), some (.int p3), some (.int p4), some (.int p5), some (.int (0 : Int32))]) dX10_sailAs_75 (Nat.le_of_ble_eq_true rfl) rfl ?_
  obtain ⟨j15, gj15, hf⟩ := ob_split hf
  refine AW.weak _ (by exact (And.intro rfl (And.intro rfl trivial))) (l_X10_sailAs_77 hs N (u2 (u2 (up (u2 (u2 (u2 (u2 (u2 I 48 9 p2) 48 10 p3) 48 11 p4) 48 12 p5) 48 16 (-1 : Int32)) 50 (cpy ((u2 (u2 (u2 (u2 (u2 I 48 9 p2) 48 10 p3) 48 11 p4) 48 12 p5) 48 16 (-1 : Int32)) 43) ((u2 (u2 (u2 (u2 (u2 I 48 9 p2) 48 10 p3) 48 11 p4) 48 12 p5) 48 16 (-1 : Int32)) 50) (tn (0 : Int32)) (tn (0 : Int32)) (tn (8 : Int32)))) 76 0 (I 45 1)) 77 0 (0 : Int32)) (0 : Int32) gj15 ?_)
  show AW G mX10_sailAs (d + 4) 0 0 K 210 [some (.ref 48), none, none, none, none, none, none] [] (j15, J, (u2 ρ.1 48 8 (some p1), ρ.2))
  refine AW.aload_n dX10_sailAs_210 rfl ?_
  obtain ⟨v16, gv16, hf⟩ := ob_split hf
  refine TW.invv (as := []) (rest := []) viX10_102_10 hs.k48 dX10_sailAs_211 rfl rfl (Nat.le_of_ble_eq_true rfl) (c_X10_sumHomes hs gv16 ?_)
  show AW G mX10_sailAs (d + 4) 0 0 K 214 [some (.ref 48), none, none, none, none, none, none] [] (j15, v16, (u2 ρ.1 48 8 (some p1), ρ.2))
  obtain rfl := Option.some.inj hf
  exact AW.vret (st := []) dX10_sailAs_214 rfl ((show Sh (u2 ρ.1 48 8 (some p1), ρ.2) → _ from hK) hs)
