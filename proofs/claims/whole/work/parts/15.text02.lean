/-! ===== methods 15.text 2 ===== -/
def f_X8_skip (N : Nat) (ρ : Rh) (I : Nat → Nat → Int32) (J : Nat → Nat → Int64) (p1 : Int32) : Option ((Nat → Nat → Int32) × Int32) := (if ((I 35 5) = p1) then (Option.bind (f_X8_next N ρ I J) fun v1 => some (v1, (1 : Int32))) else some (I, (0 : Int32)))
theorem c_X8_skip {G : Gd} {d N : Nat} {K : Ah → Option Value → Prop} {ρ : Rh} {I : Nat → Nat → Int32} {J : Nat → Nat → Int64} {p1 : Int32} {o : (Nat → Nat → Int32) × Int32} (hs : Sh ρ) (hf : f_X8_skip N ρ I J p1 = some o) (hK : K (o.1, J, ρ) (some (.int o.2))) : AM G (d + 7) 0 0 mX8_skip [.ref 35, .int p1] (I, J, ρ) K := by
  unfold f_X8_skip at hf
  refine AM.intro okX8_skip.2.2.2.1 (Nat.le_of_ble_eq_true rfl) [some (.ref 35), some (.int p1)] rfl ?_
  refine AW.aload_n dX8_skip_0 rfl ?_
  refine TW.getI (x := (I 35 5)) fX8_43_8 hs.k35 rfl dX8_skip_1 ?_
  refine AW.iload_n dX8_skip_4 rfl ?_
  refine AW.icmp_eq (tgt := 10) dX8_skip_5 (by decide) (fun hc => ?_) (fun hc => ?_)
  · have hf := (if_pos hc).symm.trans hf
    refine AW.aload_n dX8_skip_10 rfl ?_
    obtain ⟨v1, gv1, hf⟩ := ob_split hf
    refine TW.invv (as := []) (rest := []) viX8_32_8 hs.k35 dX8_skip_11 rfl rfl (Nat.le_of_ble_eq_true rfl) (c_X8_next hs gv1 ?_)
    show AW G mX8_skip (d + 7) 0 0 K 14 [some (.ref 35), some (.int p1)] [] (v1, J, ρ)
    refine AW.iconst (v := (1 : Int32)) dX8_skip_14 (by decide) ?_
    obtain rfl := Option.some.inj hf
    exact AW.zret (st := []) dX8_skip_15 rfl (Or.inr rfl) hK
  · have hf := (if_neg hc).symm.trans hf
    refine AW.iconst (v := (0 : Int32)) dX8_skip_8 (by decide) ?_
    obtain rfl := Option.some.inj hf
    exact AW.zret (st := []) dX8_skip_9 rfl (Or.inl rfl) hK
def f_X8_put (N : Nat) (ρ : Rh) (I : Nat → Nat → Int32) (J : Nat → Nat → Int64) (p1 : Int32) : Option ((Nat → Nat → Int32) × Int32) := (if ((I 35 3) < (160 : Int32)) then (if ¬ ((I 35 3) < 0 ∨ 160 ≤ tn (I 35 3)) then some ((u2 (u2 I 37 (tn (I 35 3)) p1) 35 3 ((I 35 3) + (1 : Int32))), (1 : Int32)) else none) else some (I, (0 : Int32)))
theorem c_X8_put {G : Gd} {d N : Nat} {K : Ah → Option Value → Prop} {ρ : Rh} {I : Nat → Nat → Int32} {J : Nat → Nat → Int64} {p1 : Int32} {o : (Nat → Nat → Int32) × Int32} (hs : Sh ρ) (hf : f_X8_put N ρ I J p1 = some o) (hK : K (o.1, J, ρ) (some (.int o.2))) : AM G d 0 0 mX8_put [.ref 35, .int p1] (I, J, ρ) K := by
  unfold f_X8_put at hf
  refine AM.intro okX8_put.2.2.2.1 (Nat.le_of_ble_eq_true rfl) [some (.ref 35), some (.int p1)] rfl ?_
  refine AW.aload_n dX8_put_0 rfl ?_
  refine TW.getI (x := (I 35 3)) fX8_23_8 hs.k35 rfl dX8_put_1 ?_
  refine AW.sipush (v := (160 : Int32)) dX8_put_4 (by decide) ?_
  refine AW.icmp_lt (tgt := 12) dX8_put_7 (by decide) (fun hc => ?_) (fun hc => ?_)
  · have hf := (if_pos hc).symm.trans hf
    refine AW.aload_n dX8_put_12 rfl ?_
    refine TW.getR fX8_15_8 hs.k35 (rf_some hs.r35_2) dX8_put_13 ?_
    refine AW.aload_n dX8_put_16 rfl ?_
    refine TW.getI (x := (I 35 3)) fX8_23_8 hs.k35 rfl dX8_put_17 ?_
    refine AW.iload_n dX8_put_20 rfl ?_
    obtain ⟨h1, hf⟩ := gd_split hf
    refine TW.iast hs.k37 h1 dX8_put_21 ?_
    show AW G mX8_put d 0 0 K 22 [some (.ref 35), some (.int p1)] [] ((u2 I 37 (tn (I 35 3)) p1), J, ρ)
    refine AW.aload_n dX8_put_22 rfl ?_
    refine AW.dup dX8_put_23 rfl ?_
    refine TW.getI (x := (I 35 3)) fX8_23_8 hs.k35 (u2_ne (by decide)) dX8_put_24 ?_
    refine AW.iconst (v := (1 : Int32)) dX8_put_27 (by decide) ?_
    refine AW.iadd dX8_put_28 ?_
    refine TW.putI fX8_23_8 hs.k35 (Or.inl rfl) dX8_put_29 ?_
    show AW G mX8_put d 0 0 K 32 [some (.ref 35), some (.int p1)] [] ((u2 (u2 I 37 (tn (I 35 3)) p1) 35 3 ((I 35 3) + (1 : Int32))), J, ρ)
    refine AW.iconst (v := (1 : Int32)) dX8_put_32 (by decide) ?_
    obtain rfl := Option.some.inj hf
    exact AW.zret (st := []) dX8_put_33 rfl (Or.inr rfl) hK
  · have hf := (if_neg hc).symm.trans hf
    refine AW.iconst (v := (0 : Int32)) dX8_put_10 (by decide) ?_
    obtain rfl := Option.some.inj hf
    exact AW.zret (st := []) dX8_put_11 rfl (Or.inl rfl) hK
def f_X8_tightnessOf (N : Nat) (ρ : Rh) (I : Nat → Nat → Int32) (J : Nat → Nat → Int64) (p1 : Int32) : Option (Int32) := (if p1 = (-15 : Int32) then some (4 : Int32) else (if p1 = (-14 : Int32) then some (3 : Int32) else (if p1 = (-13 : Int32) then some (3 : Int32) else (if p1 = (-12 : Int32) then some (2 : Int32) else (if p1 = (-11 : Int32) then some (2 : Int32) else (if p1 = (-10 : Int32) then some (1 : Int32) else (if p1 = (-9 : Int32) then some (0 : Int32) else some (-1 : Int32))))))))
theorem c_X8_tightnessOf {G : Gd} {d N : Nat} {K : Ah → Option Value → Prop} {ρ : Rh} {I : Nat → Nat → Int32} {J : Nat → Nat → Int64} {p1 : Int32} {o : Int32} (hs : Sh ρ) (hf : f_X8_tightnessOf N ρ I J p1 = some o) (hK : K (I, J, ρ) (some (.int o))) : AM G d 0 0 mX8_tightnessOf [.int p1] (I, J, ρ) K := by
  unfold f_X8_tightnessOf at hf
  refine AM.intro okX8_tightnessOf.2.2.2.1 (Nat.le_of_ble_eq_true rfl) [some (.int p1)] rfl ?_
  refine AW.iload_n dX8_tightnessOf_0 rfl ?_
  by_cases hcm15 : p1 = (-15 : Int32)
  · have hf := (if_pos hcm15).symm.trans hf
    refine AW.swIn (tgt := 52) dX8_tightnessOf_1 (by rw [hcm15]; decide) (by rw [hcm15]; decide) (by rw [hcm15]; rfl) (by decide) ?_
    refine AW.iconst (v := (4 : Int32)) dX8_tightnessOf_52 (by decide) ?_
    obtain rfl := Option.some.inj hf
    exact AW.iret (st := []) dX8_tightnessOf_53 rfl hK
  have hf := (if_neg hcm15).symm.trans hf
  by_cases hcm14 : p1 = (-14 : Int32)
  · have hf := (if_pos hcm14).symm.trans hf
    refine AW.swIn (tgt := 50) dX8_tightnessOf_1 (by rw [hcm14]; decide) (by rw [hcm14]; decide) (by rw [hcm14]; rfl) (by decide) ?_
    refine AW.iconst (v := (3 : Int32)) dX8_tightnessOf_50 (by decide) ?_
    obtain rfl := Option.some.inj hf
    exact AW.iret (st := []) dX8_tightnessOf_51 rfl hK
  have hf := (if_neg hcm14).symm.trans hf
  by_cases hcm13 : p1 = (-13 : Int32)
  · have hf := (if_pos hcm13).symm.trans hf
    refine AW.swIn (tgt := 50) dX8_tightnessOf_1 (by rw [hcm13]; decide) (by rw [hcm13]; decide) (by rw [hcm13]; rfl) (by decide) ?_
    refine AW.iconst (v := (3 : Int32)) dX8_tightnessOf_50 (by decide) ?_
    obtain rfl := Option.some.inj hf
    exact AW.iret (st := []) dX8_tightnessOf_51 rfl hK
  have hf := (if_neg hcm13).symm.trans hf
  by_cases hcm12 : p1 = (-12 : Int32)
  · have hf := (if_pos hcm12).symm.trans hf
    refine AW.swIn (tgt := 48) dX8_tightnessOf_1 (by rw [hcm12]; decide) (by rw [hcm12]; decide) (by rw [hcm12]; rfl) (by decide) ?_
    refine AW.iconst (v := (2 : Int32)) dX8_tightnessOf_48 (by decide) ?_
    obtain rfl := Option.some.inj hf
    exact AW.iret (st := []) dX8_tightnessOf_49 rfl hK
  have hf := (if_neg hcm12).symm.trans hf
  by_cases hcm11 : p1 = (-11 : Int32)
  · have hf := (if_pos hcm11).symm.trans hf
    refine AW.swIn (tgt := 48) dX8_tightnessOf_1 (by rw [hcm11]; decide) (by rw [hcm11]; decide) (by rw [hcm11]; rfl) (by decide) ?_
    refine AW.iconst (v := (2 : Int32)) dX8_tightnessOf_48 (by decide) ?_
    obtain rfl := Option.some.inj hf
    exact AW.iret (st := []) dX8_tightnessOf_49 rfl hK
  have hf := (if_neg hcm11).symm.trans hf
  by_cases hcm10 : p1 = (-10 : Int32)
  · have hf := (if_pos hcm10).symm.trans hf
    refine AW.swIn (tgt := 46) dX8_tightnessOf_1 (by rw [hcm10]; decide) (by rw [hcm10]; decide) (by rw [hcm10]; rfl) (by decide) ?_
    refine AW.iconst (v := (1 : Int32)) dX8_tightnessOf_46 (by decide) ?_
    obtain rfl := Option.some.inj hf
    exact AW.iret (st := []) dX8_tightnessOf_47 rfl hK
  have hf := (if_neg hcm10).symm.trans hf
  by_cases hcm9 : p1 = (-9 : Int32)
  · have hf := (if_pos hcm9).symm.trans hf
    refine AW.swIn (tgt := 44) dX8_tightnessOf_1 (by rw [hcm9]; decide) (by rw [hcm9]; decide) (by rw [hcm9]; rfl) (by decide) ?_
    refine AW.iconst (v := (0 : Int32)) dX8_tightnessOf_44 (by decide) ?_
    obtain rfl := Option.some.inj hf
    exact AW.iret (st := []) dX8_tightnessOf_45 rfl hK
  have hf := (if_neg hcm9).symm.trans hf
  have KD : AW G mX8_tightnessOf d 0 0 K 54 [some (.int p1)] [] (I, J, ρ) := by
    refine AW.iconst (v := (-1 : Int32)) dX8_tightnessOf_54 (by decide) ?_
    obtain rfl := Option.some.inj hf
    exact AW.iret (st := []) dX8_tightnessOf_55 rfl hK
  have hcm15 : ¬ (p1).toInt = -15 := fun q => hcm15 (Int32.toInt_inj.mp q)
  have hcm14 : ¬ (p1).toInt = -14 := fun q => hcm14 (Int32.toInt_inj.mp q)
  have hcm13 : ¬ (p1).toInt = -13 := fun q => hcm13 (Int32.toInt_inj.mp q)
  have hcm12 : ¬ (p1).toInt = -12 := fun q => hcm12 (Int32.toInt_inj.mp q)
  have hcm11 : ¬ (p1).toInt = -11 := fun q => hcm11 (Int32.toInt_inj.mp q)
  have hcm10 : ¬ (p1).toInt = -10 := fun q => hcm10 (Int32.toInt_inj.mp q)
  have hcm9 : ¬ (p1).toInt = -9 := fun q => hcm9 (Int32.toInt_inj.mp q)
  exact AW.swOut dX8_tightnessOf_1 (by omega) (by decide) KD
