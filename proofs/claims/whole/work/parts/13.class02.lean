/-! ===== methods 13.class 2 ===== -/
def f_X2_need (N : Nat) (ρ : Rh) (I : Nat → Nat → Int32) (J : Nat → Nat → Int64) (p0 : Nat) : Option ((Nat → Nat → Int32) × Int32) := (if ρ.2.1 p0 = (0, 2) then (Option.bind (f_X2_value N ρ I J p0 (0 : Int32) (I p0 2)) fun v2 => some (v2.1, v2.2)) else none)
theorem c_X2_need {G : Gd} {d N : Nat} {K : Ah → Option Value → Prop} {ρ : Rh} {I : Nat → Nat → Int32} {J : Nat → Nat → Int64} {p0 : Nat} {o : (Nat → Nat → Int32) × Int32} (hs : Sh ρ) (hf : f_X2_need N ρ I J p0 = some o) (hK : K (o.1, J, ρ) (some (.int o.2))) : AM G (d + 2) 0 0 mX2_need [.ref p0, .ref 79, .ref 80] (I, J, ρ) K := by
  unfold f_X2_need at hf
  refine AM.intro okX2_need.2.2.2.1 (Nat.le_of_ble_eq_true rfl) [some (.ref p0), some (.ref 79), some (.ref 80)] rfl ?_
  refine AW.aload_n dX2_need_0 rfl ?_
  refine AW.iconst (v := (0 : Int32)) dX2_need_1 (by decide) ?_
  refine AW.aload_n dX2_need_2 rfl ?_
  obtain ⟨h1, hf⟩ := gd_split hf
  refine TW.getI (x := (I p0 2)) fX2_19_2 h1 rfl dX2_need_3 ?_
  refine AW.aload_n dX2_need_6 rfl ?_
  refine AW.aload_n dX2_need_7 rfl ?_
  obtain ⟨v2, gv2, hf⟩ := ob_split hf
  refine TW.invv (as := [.int (0 : Int32), .int (I p0 2), .ref 79, .ref 80]) (rest := []) viX2_22_2 h1 dX2_need_8 rfl rfl (Nat.le_of_ble_eq_true rfl) (c_X2_value hs gv2 ?_)
  show AW G mX2_need (d + 2) 0 0 K 11 [some (.ref p0), some (.ref 79), some (.ref 80)] [.int v2.2] (v2.1, J, ρ)
  obtain rfl := Option.some.inj hf
  exact AW.iret (st := []) dX2_need_11 rfl hK
def f_X2_row (N : Nat) (ρ : Rh) (I : Nat → Nat → Int32) (J : Nat → Nat → Int64) (p0 : Nat) : Option ((Nat → Nat → Int32) × Int32) := (if ρ.2.1 p0 = (0, 2) then (Option.bind (ρ.1 p0 1) fun a2 => (if ρ.2.1 a2 = (1, (ρ.2.1 a2).2) then (Option.bind (f_X2_value N ρ I J p0 (I p0 2) (Int32.ofNat (ρ.2.1 a2).2)) fun v4 => some (v4.1, v4.2)) else none)) else none)
theorem c_X2_row {G : Gd} {d N : Nat} {K : Ah → Option Value → Prop} {ρ : Rh} {I : Nat → Nat → Int32} {J : Nat → Nat → Int64} {p0 : Nat} {o : (Nat → Nat → Int32) × Int32} (hs : Sh ρ) (hf : f_X2_row N ρ I J p0 = some o) (hK : K (o.1, J, ρ) (some (.int o.2))) : AM G (d + 2) 0 0 mX2_row [.ref p0, .ref 79, .ref 80] (I, J, ρ) K := by
  unfold f_X2_row at hf
  refine AM.intro okX2_row.2.2.2.1 (Nat.le_of_ble_eq_true rfl) [some (.ref p0), some (.ref 79), some (.ref 80)] rfl ?_
  refine AW.aload_n dX2_row_0 rfl ?_
  refine AW.aload_n dX2_row_1 rfl ?_
  obtain ⟨h1, hf⟩ := gd_split hf
  refine TW.getI (x := (I p0 2)) fX2_19_2 h1 rfl dX2_row_2 ?_
  refine AW.aload_n dX2_row_5 rfl ?_
  obtain ⟨a2, ga2, hf⟩ := ob_split hf
  refine TW.getR (v := .ref a2) fX2_15_2 h1 (rf_some ga2) dX2_row_6 ?_
  obtain ⟨h3, hf⟩ := gd_split hf
  refine TW.alen h3 (by decide) (by decide) rfl dX2_row_9 ?_
  refine AW.aload_n dX2_row_10 rfl ?_
  refine AW.aload_n dX2_row_11 rfl ?_
  obtain ⟨v4, gv4, hf⟩ := ob_split hf
  refine TW.invv (as := [.int (I p0 2), .int (Int32.ofNat (ρ.2.1 a2).2), .ref 79, .ref 80]) (rest := []) viX2_22_2 h1 dX2_row_12 rfl rfl (Nat.le_of_ble_eq_true rfl) (c_X2_value hs gv4 ?_)
  show AW G mX2_row (d + 2) 0 0 K 15 [some (.ref p0), some (.ref 79), some (.ref 80)] [.int v4.2] (v4.1, J, ρ)
  obtain rfl := Option.some.inj hf
  exact AW.iret (st := []) dX2_row_15 rfl hK
def f_X4_share_4 (N : Nat) (ρ : Rh) (I : Nat → Nat → Int32) (J : Nat → Nat → Int64) (p0 : Nat) (p2 : Int32) : Option (Int32) := (if ¬ ((I 48 13) < 0 ∨ 13 ≤ tn (I 48 13)) then (if ¬ (p2 < 0 ∨ 8 ≤ tn p2) then (if ρ.2.1 p0 = (0, 4) then (((if ((I p0 1) ≤ (I (50 + (tn (I 48 13))) (tn p2))) then some (-1 : Int32) else some (2 : Int32)) : Option (Int32)).bind fun j5 => (Option.bind (f_X6_share N ρ I J p0 p2) fun v6 => some (if (0 : Int32) < (v6 + j5) then (v6 + j5) else (0 : Int32)))) else none) else none) else none)
theorem c_X4_share_4 {G : Gd} {d N : Nat} {K : Ah → Option Value → Prop} {ρ : Rh} {I : Nat → Nat → Int32} {J : Nat → Nat → Int64} {p0 : Nat} {p2 : Int32} {o : Int32} (hs : Sh ρ) (hf : f_X4_share_4 N ρ I J p0 p2 = some o) (hK : K (I, J, ρ) (some (.int o))) : AM G (d + 1) 0 0 mX4_share [.ref p0, .ref 48, .int p2] (I, J, ρ) K := by
  unfold f_X4_share_4 at hf
  refine AM.intro okX4_share.2.2.2.1 (Nat.le_of_ble_eq_true rfl) [some (.ref p0), some (.ref 48), some (.int p2), none] rfl ?_
  refine AW.aload_n dX4_share_0 rfl ?_
  refine TW.getR fX4_7_10 hs.k48 (rf_some hs.r48_1) dX4_share_1 ?_
  refine AW.aload_n dX4_share_4 rfl ?_
  refine TW.getI (x := (I 48 13)) fX4_13_10 hs.k48 rfl dX4_share_5 ?_
  obtain ⟨h1, hf⟩ := gd_split hf
  have hl2 : (tn (I 48 13)) < 13 := vp_lt h1
  refine TW.aald (t := 3) hs.k49 (by decide) h1 (rf_some (hs.e49 hl2)) dX4_share_8 ?_
  refine AW.iload_n dX4_share_9 rfl ?_
  obtain ⟨h3, hf⟩ := gd_split hf
  refine TW.iald (x := (I (50 + (tn (I 48 13))) (tn p2))) (hs.ek49 hl2) h3 rfl dX4_share_10 ?_
  refine AW.aload_n dX4_share_11 rfl ?_
  obtain ⟨h4, hf⟩ := gd_split hf
  refine TW.getI (x := (I p0 1)) fX4_17_4 h4 rfl dX4_share_12 ?_
  obtain ⟨j5, gj5, hf⟩ := ob_split hf
  have Kj5 : AW G mX4_share (d + 1) 0 0 K 23 [some (.ref p0), some (.ref 48), some (.int p2), none] [.int j5] (I, J, ρ) := by
    refine AW.istore_n (ls' := [some (.ref p0), some (.ref 48), some (.int p2), some (.int j5)]) dX4_share_23 (Nat.le_of_ble_eq_true rfl) rfl ?_
    refine AW.iconst (v := (0 : Int32)) dX4_share_24 (by decide) ?_
    refine AW.aload_n dX4_share_25 rfl ?_
    refine AW.aload_n dX4_share_26 rfl ?_
    refine AW.iload_n dX4_share_27 rfl ?_
    obtain ⟨v6, gv6, hf⟩ := ob_split hf
    refine TW.invsu (as := [.ref 48, .int p2]) (rest := [.int (0 : Int32)]) suX4_22 h4 rfl dX4_share_28 rfl rfl (Nat.le_of_ble_eq_true rfl) (c_X6_share hs gv6 ?_)
    show AW G mX4_share (d + 1) 0 0 K 31 [some (.ref p0), some (.ref 48), some (.int p2), some (.int j5)] [.int v6, .int (0 : Int32)] (I, J, ρ)
    refine AW.iload_n dX4_share_31 rfl ?_
    refine AW.iadd dX4_share_32 ?_
    refine AW.mmax mtX4_26 dX4_share_33 (Nat.le_of_ble_eq_true rfl) ?_
    obtain rfl := Option.some.inj hf
    exact AW.iret (st := []) dX4_share_36 rfl hK
  clear hf; have hf := gj5; clear gj5
  refine AW.icmp_ge (tgt := 22) dX4_share_15 (by decide) (fun hc => ?_) (fun hc => ?_)
  · have hf := (if_pos hc).symm.trans hf
    refine AW.iconst (v := (-1 : Int32)) dX4_share_22 (by decide) ?_
    obtain rfl := Option.some.inj hf
    exact AW.weak _ (by exact (And.intro rfl (And.intro rfl (And.intro rfl trivial)))) Kj5
  · have hf := (if_neg hc).symm.trans hf
    refine AW.iconst (v := (2 : Int32)) dX4_share_18 (by decide) ?_
    refine AW.goto (tgt := 23) dX4_share_19 (by decide) ?_
    obtain rfl := Option.some.inj hf
    exact AW.weak _ (by exact (And.intro rfl (And.intro rfl (And.intro rfl trivial)))) Kj5
def f_X4_share_3 (N : Nat) (ρ : Rh) (I : Nat → Nat → Int32) (J : Nat → Nat → Int64) (p0 : Nat) (p2 : Int32) : Option (Int32) := (if ¬ ((I 48 13) < 0 ∨ 13 ≤ tn (I 48 13)) then (if ¬ (p2 < 0 ∨ 8 ≤ tn p2) then (if ρ.2.1 p0 = (0, 3) then (((if ((I p0 1) ≤ (I (50 + (tn (I 48 13))) (tn p2))) then some (-1 : Int32) else some (2 : Int32)) : Option (Int32)).bind fun j5 => (Option.bind (f_X6_share N ρ I J p0 p2) fun v6 => some (if (0 : Int32) < (v6 + j5) then (v6 + j5) else (0 : Int32)))) else none) else none) else none)
theorem c_X4_share_3 {G : Gd} {d N : Nat} {K : Ah → Option Value → Prop} {ρ : Rh} {I : Nat → Nat → Int32} {J : Nat → Nat → Int64} {p0 : Nat} {p2 : Int32} {o : Int32} (hs : Sh ρ) (hf : f_X4_share_3 N ρ I J p0 p2 = some o) (hK : K (I, J, ρ) (some (.int o))) : AM G (d + 1) 0 0 mX4_share [.ref p0, .ref 48, .int p2] (I, J, ρ) K := by
  unfold f_X4_share_3 at hf
  refine AM.intro okX4_share.2.2.2.1 (Nat.le_of_ble_eq_true rfl) [some (.ref p0), some (.ref 48), some (.int p2), none] rfl ?_
  refine AW.aload_n dX4_share_0 rfl ?_
  refine TW.getR fX4_7_10 hs.k48 (rf_some hs.r48_1) dX4_share_1 ?_
  refine AW.aload_n dX4_share_4 rfl ?_
  refine TW.getI (x := (I 48 13)) fX4_13_10 hs.k48 rfl dX4_share_5 ?_
  obtain ⟨h1, hf⟩ := gd_split hf
  have hl2 : (tn (I 48 13)) < 13 := vp_lt h1
  refine TW.aald (t := 3) hs.k49 (by decide) h1 (rf_some (hs.e49 hl2)) dX4_share_8 ?_
  refine AW.iload_n dX4_share_9 rfl ?_
  obtain ⟨h3, hf⟩ := gd_split hf
  refine TW.iald (x := (I (50 + (tn (I 48 13))) (tn p2))) (hs.ek49 hl2) h3 rfl dX4_share_10 ?_
  refine AW.aload_n dX4_share_11 rfl ?_
  obtain ⟨h4, hf⟩ := gd_split hf
  refine TW.getI (x := (I p0 1)) fX4_17_3 h4 rfl dX4_share_12 ?_
  obtain ⟨j5, gj5, hf⟩ := ob_split hf
  have Kj5 : AW G mX4_share (d + 1) 0 0 K 23 [some (.ref p0), some (.ref 48), some (.int p2), none] [.int j5] (I, J, ρ) := by
    refine AW.istore_n (ls' := [some (.ref p0), some (.ref 48), some (.int p2), some (.int j5)]) dX4_share_23 (Nat.le_of_ble_eq_true rfl) rfl ?_
    refine AW.iconst (v := (0 : Int32)) dX4_share_24 (by decide) ?_
    refine AW.aload_n dX4_share_25 rfl ?_
    refine AW.aload_n dX4_share_26 rfl ?_
    refine AW.iload_n dX4_share_27 rfl ?_
    obtain ⟨v6, gv6, hf⟩ := ob_split hf
    refine TW.invsu (as := [.ref 48, .int p2]) (rest := [.int (0 : Int32)]) suX4_22 h4 rfl dX4_share_28 rfl rfl (Nat.le_of_ble_eq_true rfl) (c_X6_share hs gv6 ?_)
    show AW G mX4_share (d + 1) 0 0 K 31 [some (.ref p0), some (.ref 48), some (.int p2), some (.int j5)] [.int v6, .int (0 : Int32)] (I, J, ρ)
    refine AW.iload_n dX4_share_31 rfl ?_
    refine AW.iadd dX4_share_32 ?_
    refine AW.mmax mtX4_26 dX4_share_33 (Nat.le_of_ble_eq_true rfl) ?_
    obtain rfl := Option.some.inj hf
    exact AW.iret (st := []) dX4_share_36 rfl hK
  clear hf; have hf := gj5; clear gj5
  refine AW.icmp_ge (tgt := 22) dX4_share_15 (by decide) (fun hc => ?_) (fun hc => ?_)
  · have hf := (if_pos hc).symm.trans hf
    refine AW.iconst (v := (-1 : Int32)) dX4_share_22 (by decide) ?_
    obtain rfl := Option.some.inj hf
    exact AW.weak _ (by exact (And.intro rfl (And.intro rfl (And.intro rfl trivial)))) Kj5
  · have hf := (if_neg hc).symm.trans hf
    refine AW.iconst (v := (2 : Int32)) dX4_share_18 (by decide) ?_
    refine AW.goto (tgt := 23) dX4_share_19 (by decide) ?_
    obtain rfl := Option.some.inj hf
    exact AW.weak _ (by exact (And.intro rfl (And.intro rfl (And.intro rfl trivial)))) Kj5
def f_X3_share (N : Nat) (ρ : Rh) (I : Nat → Nat → Int32) (J : Nat → Nat → Int64) (p0 : Nat) (p2 : Int32) : Option (Int32) := (Option.bind (f_X4_share_3 N ρ I J p0 p2) fun v1 => (if ρ.2.1 p0 = (0, 3) then (if ((I 48 14) ≤ (0 : Int32)) then some v1 else (if ¬ (I 48 14) = 0 then (if ((I 48 15) = ((((7 : Int32) * (I 48 13)) + (I p0 1)) - (((7 : Int32) * (I 48 13)) + (I p0 1)) / (I 48 14) * (I 48 14))) then some ((2 : Int32) * v1) else some v1) else none)) else none))
theorem c_X3_share {G : Gd} {d N : Nat} {K : Ah → Option Value → Prop} {ρ : Rh} {I : Nat → Nat → Int32} {J : Nat → Nat → Int64} {p0 : Nat} {p2 : Int32} {o : Int32} (hs : Sh ρ) (hf : f_X3_share N ρ I J p0 p2 = some o) (hK : K (I, J, ρ) (some (.int o))) : AM G (d + 2) 0 0 mX3_share [.ref p0, .ref 48, .int p2] (I, J, ρ) K := by
  unfold f_X3_share at hf
  refine AM.intro okX3_share.2.2.2.1 (Nat.le_of_ble_eq_true rfl) [some (.ref p0), some (.ref 48), some (.int p2), none] rfl ?_
  refine AW.aload_n dX3_share_0 rfl ?_
  refine AW.aload_n dX3_share_1 rfl ?_
  refine AW.iload_n dX3_share_2 rfl ?_
  obtain ⟨v1, gv1, hf⟩ := ob_split hf
  obtain ⟨h2, hf⟩ := gd_split hf
  refine TW.invsu (as := [.ref 48, .int p2]) (rest := []) suX3_7 h2 rfl dX3_share_3 rfl rfl (Nat.le_of_ble_eq_true rfl) (c_X4_share_3 hs gv1 ?_)
  show AW G mX3_share (d + 2) 0 0 K 6 [some (.ref p0), some (.ref 48), some (.int p2), none] [.int v1] (I, J, ρ)
  refine AW.istore_n (ls' := [some (.ref p0), some (.ref 48), some (.int p2), some (.int v1)]) dX3_share_6 (Nat.le_of_ble_eq_true rfl) rfl ?_
  refine AW.aload_n dX3_share_7 rfl ?_
  refine TW.getI (x := (I 48 14)) fX3_11_10 hs.k48 rfl dX3_share_8 ?_
  refine AW.if_le (tgt := 38) dX3_share_11 (by decide) (fun hc => ?_) (fun hc => ?_)
  · have hf := (if_pos hc).symm.trans hf
    refine AW.iload_n dX3_share_38 rfl ?_
    obtain rfl := Option.some.inj hf
    exact AW.iret (st := []) dX3_share_39 rfl hK
  · have hf := (if_neg hc).symm.trans hf
    refine AW.aload_n dX3_share_14 rfl ?_
    refine TW.getI (x := (I 48 15)) fX3_17_10 hs.k48 rfl dX3_share_15 ?_
    refine AW.bipush (v := (7 : Int32)) dX3_share_18 (by decide) ?_
    refine AW.aload_n dX3_share_20 rfl ?_
    refine TW.getI (x := (I 48 13)) fX3_20_10 hs.k48 rfl dX3_share_21 ?_
    refine AW.imul dX3_share_24 ?_
    refine AW.aload_n dX3_share_25 rfl ?_
    refine TW.getI (x := (I p0 1)) fX3_23_3 h2 rfl dX3_share_26 ?_
    refine AW.iadd dX3_share_29 ?_
    refine AW.aload_n dX3_share_30 rfl ?_
    refine TW.getI (x := (I 48 14)) fX3_11_10 hs.k48 rfl dX3_share_31 ?_
    obtain ⟨h3, hf⟩ := gd_split hf
    refine AW.irem (hne := h3) dX3_share_34 ?_
    refine AW.icmp_eq (tgt := 40) dX3_share_35 (by decide) (fun hc => ?_) (fun hc => ?_)
    · have hf := (if_pos hc).symm.trans hf
      refine AW.iconst (v := (2 : Int32)) dX3_share_40 (by decide) ?_
      refine AW.iload_n dX3_share_41 rfl ?_
      refine AW.imul dX3_share_42 ?_
      obtain rfl := Option.some.inj hf
      exact AW.iret (st := []) dX3_share_43 rfl hK
    · have hf := (if_neg hc).symm.trans hf
      refine AW.iload_n dX3_share_38 rfl ?_
      obtain rfl := Option.some.inj hf
      exact AW.iret (st := []) dX3_share_39 rfl hK
def f_X6_toldFor (N : Nat) (ρ : Rh) (I : Nat → Nat → Int32) (J : Nat → Nat → Int64) (p0 : Nat) (p1 : Int32) : Option (Int32) := some (0 : Int32)
theorem c_X6_toldFor {G : Gd} {d N : Nat} {K : Ah → Option Value → Prop} {ρ : Rh} {I : Nat → Nat → Int32} {J : Nat → Nat → Int64} {p0 : Nat} {p1 : Int32} {o : Int32} (hs : Sh ρ) (hf : f_X6_toldFor N ρ I J p0 p1 = some o) (hK : K (I, J, ρ) (some (.int o))) : AM G d 0 0 mX6_toldFor [.ref p0, .int p1] (I, J, ρ) K := by
  unfold f_X6_toldFor at hf
  refine AM.intro okX6_toldFor.2.2.2.1 (Nat.le_of_ble_eq_true rfl) [some (.ref p0), some (.int p1)] rfl ?_
  refine AW.iconst (v := (0 : Int32)) dX6_toldFor_0 (by decide) ?_
  obtain rfl := Option.some.inj hf
  exact AW.iret (st := []) dX6_toldFor_1 rfl hK
def f_X7_isMissing (N : Nat) (ρ : Rh) (I : Nat → Nat → Int32) (J : Nat → Nat → Int64) (p0 : Nat) : Option (Int32) := (if ρ.2.1 p0 = (0, 7) then (if ((0 : Int32) ≤ (I p0 0)) then some (0 : Int32) else some (1 : Int32)) else none)
theorem c_X7_isMissing {G : Gd} {d N : Nat} {K : Ah → Option Value → Prop} {ρ : Rh} {I : Nat → Nat → Int32} {J : Nat → Nat → Int64} {p0 : Nat} {o : Int32} (hs : Sh ρ) (hf : f_X7_isMissing N ρ I J p0 = some o) (hK : K (I, J, ρ) (some (.int o))) : AM G d 0 0 mX7_isMissing [.ref p0] (I, J, ρ) K := by
  unfold f_X7_isMissing at hf
  refine AM.intro okX7_isMissing.2.2.2.1 (Nat.le_of_ble_eq_true rfl) [some (.ref p0)] rfl ?_
  refine AW.aload_n dX7_isMissing_0 rfl ?_
  obtain ⟨h1, hf⟩ := gd_split hf
  refine TW.getI (x := (I p0 0)) fX7_9_7 h1 rfl dX7_isMissing_1 ?_
  refine AW.if_ge (tgt := 11) dX7_isMissing_4 (by decide) (fun hc => ?_) (fun hc => ?_)
  · have hf := (if_pos hc).symm.trans hf
    refine AW.iconst (v := (0 : Int32)) dX7_isMissing_11 (by decide) ?_
    obtain rfl := Option.some.inj hf
    exact AW.zret (st := []) dX7_isMissing_12 rfl (Or.inl rfl) hK
  · have hf := (if_neg hc).symm.trans hf
    refine AW.iconst (v := (1 : Int32)) dX7_isMissing_7 (by decide) ?_
    refine AW.goto (tgt := 12) dX7_isMissing_8 (by decide) ?_
    obtain rfl := Option.some.inj hf
    exact AW.zret (st := []) dX7_isMissing_12 rfl (Or.inr rfl) hK
def f_J7_fill_53178_5 (N : Nat) (J : Nat → Nat → Int64) (ρ : Rh) (a3 : Nat) (p2 : Int32) (c5 : Int32) : Nat → (Nat → Nat → Int32) → Int32 → Option ((Nat → Nat → Int32))
  | 0, _, _ => none
  | n + 1, I2, i4 => (if (c5 ≤ i4) then some I2 else (if ρ.2.1 a3 = (1, (ρ.2.1 a3).2) then (if ¬ (i4 < 0 ∨ (ρ.2.1 a3).2 ≤ tn i4) then f_J7_fill_53178_5 N J ρ a3 p2 c5 n (u2 I2 a3 (tn i4) p2) (i4 + (1 : Int32)) else none) else none))
theorem l_J7_fill_53178_5 {G : Gd} {d N : Nat} {K : Ah → Option Value → Prop} {J : Nat → Nat → Int64} {ρ : Rh} {a3 : Nat} {p2 : Int32} {c5 : Int32} (hs : Sh ρ) {o : (Nat → Nat → Int32)} : ∀ (n : Nat) (I2 : Nat → Nat → Int32) (i4 : Int32), f_J7_fill_53178_5 N J ρ a3 p2 c5 n I2 i4 = some o → AW G mJ7_fill_53178 d 0 0 K 20 [none, none, none, none] [] (o, J, ρ) → AW G mJ7_fill_53178 d 0 0 K 5 [some (.ref a3), some (.int p2), some (.int i4), some (.int c5)] [] (I2, J, ρ) := by
  intro n
  induction n with
  | zero => intro I2 i4 hf hE; rw [f_J7_fill_53178_5.eq_1] at hf; cases hf
  | succ n ih =>
    intro I2 i4 hf hE
    rw [f_J7_fill_53178_5.eq_2] at hf
    refine AW.iload_n dJ7_fill_53178_5 rfl ?_
    refine AW.iload_n dJ7_fill_53178_6 rfl ?_
    refine AW.icmp_ge (tgt := 20) dJ7_fill_53178_7 (by decide) (fun hc => ?_) (fun hc => ?_)
    · have hf := (if_pos hc).symm.trans hf
      obtain rfl := Option.some.inj hf
      exact AW.weak _ (by exact trivial) hE
    · have hf := (if_neg hc).symm.trans hf
      refine AW.aload_n dJ7_fill_53178_10 rfl ?_
      refine AW.iload_n dJ7_fill_53178_11 rfl ?_
      refine AW.iload_n dJ7_fill_53178_12 rfl ?_
      obtain ⟨h6, hf⟩ := gd_split hf
      obtain ⟨h7, hf⟩ := gd_split hf
      refine TW.iast h6 h7 dJ7_fill_53178_13 ?_
      show AW G mJ7_fill_53178 d 0 0 K 14 [some (.ref a3), some (.int p2), some (.int i4), some (.int c5)] [] ((u2 I2 a3 (tn i4) p2), J, ρ)
      refine AW.iinc (v := (i4 + (1 : Int32))) (ls' := [some (.ref a3), some (.int p2), some (.int (i4 + (1 : Int32))), some (.int c5)]) dJ7_fill_53178_14 rfl rfl (Nat.le_of_ble_eq_true rfl) rfl ?_
      refine AW.goto (tgt := 5) dJ7_fill_53178_17 (by decide) ?_
      exact AW.weak _ (by exact (And.intro rfl (And.intro rfl (And.intro rfl (And.intro rfl trivial))))) (ih (u2 I2 a3 (tn i4) p2) (i4 + (1 : Int32)) hf hE)
def f_J7_fill_53178 (N : Nat) (ρ : Rh) (I : Nat → Nat → Int32) (J : Nat → Nat → Int64) (p1 : Nat) (p2 : Int32) : Option ((Nat → Nat → Int32)) := (if ρ.2.1 p1 = (1, (ρ.2.1 p1).2) then ((f_J7_fill_53178_5 N J ρ p1 p2 (Int32.ofNat (ρ.2.1 p1).2) N I (0 : Int32)).bind fun j8 => some j8) else none)
theorem c_J7_fill_53178 {G : Gd} {d N : Nat} {K : Ah → Option Value → Prop} {ρ : Rh} {I : Nat → Nat → Int32} {J : Nat → Nat → Int64} {p1 : Nat} {p2 : Int32} {o : (Nat → Nat → Int32)} (hs : Sh ρ) (hf : f_J7_fill_53178 N ρ I J p1 p2 = some o) (hK : K (o, J, ρ) none) : AM G d 0 0 mJ7_fill_53178 [.ref p1, .int p2] (I, J, ρ) K := by
  unfold f_J7_fill_53178 at hf
  refine AM.intro okJ7_fill_53178.2.2.2.1 (Nat.le_of_ble_eq_true rfl) [some (.ref p1), some (.int p2), none, none] rfl ?_
  refine AW.iconst (v := (0 : Int32)) dJ7_fill_53178_0 (by decide) ?_
  refine AW.istore_n (ls' := [some (.ref p1), some (.int p2), some (.int (0 : Int32)), none]) dJ7_fill_53178_1 (Nat.le_of_ble_eq_true rfl) rfl ?_
  refine AW.aload_n dJ7_fill_53178_2 rfl ?_
  obtain ⟨h1, hf⟩ := gd_split hf
  refine TW.alen h1 (by decide) (by decide) rfl dJ7_fill_53178_3 ?_
  refine AW.istore_n (ls' := [some (.ref p1), some (.int p2), some (.int (0 : Int32)), some (.int (Int32.ofNat (ρ.2.1 p1).2))]) dJ7_fill_53178_4 (Nat.le_of_ble_eq_true rfl) rfl ?_
  obtain ⟨j8, gj8, hf⟩ := ob_split hf
  refine AW.weak _ (by exact (And.intro rfl (And.intro rfl (And.intro rfl (And.intro rfl trivial))))) (l_J7_fill_53178_5 hs N I (0 : Int32) gj8 ?_)
  show AW G mJ7_fill_53178 d 0 0 K 20 [none, none, none, none] [] (j8, J, ρ)
  obtain rfl := Option.some.inj hf
  exact AW.vret (st := []) dJ7_fill_53178_20 rfl hK
def f_X7_become (N : Nat) (ρ : Rh) (I : Nat → Nat → Int32) (J : Nat → Nat → Int64) (p0 : Nat) (p1 : Int32) (p2 : Int32) : Option ((Nat → Nat → Int32)) := (if ρ.2.1 p0 = (0, 7) then (Option.bind (ρ.1 p0 2) fun a2 => (Option.bind (f_J7_fill_53178 N ρ (u2 (u2 I p0 0 p1) p0 1 p2) J a2 (0 : Int32)) fun v3 => some v3)) else none)
theorem c_X7_become {G : Gd} {d N : Nat} {K : Ah → Option Value → Prop} {ρ : Rh} {I : Nat → Nat → Int32} {J : Nat → Nat → Int64} {p0 : Nat} {p1 : Int32} {p2 : Int32} {o : (Nat → Nat → Int32)} (hs : Sh ρ) (hf : f_X7_become N ρ I J p0 p1 p2 = some o) (hK : K (o, J, ρ) none) : AM G (d + 1) 0 0 mX7_become [.ref p0, .int p1, .int p2] (I, J, ρ) K := by
  unfold f_X7_become at hf
  refine AM.intro okX7_become.2.2.2.1 (Nat.le_of_ble_eq_true rfl) [some (.ref p0), some (.int p1), some (.int p2)] rfl ?_
  refine AW.aload_n dX7_become_0 rfl ?_
  refine AW.iload_n dX7_become_1 rfl ?_
  obtain ⟨h1, hf⟩ := gd_split hf
  refine TW.putI fX7_9_7 h1 (Or.inl rfl) dX7_become_2 ?_
  show AW G mX7_become (d + 1) 0 0 K 5 [some (.ref p0), some (.int p1), some (.int p2)] [] ((u2 I p0 0 p1), J, ρ)
  refine AW.aload_n dX7_become_5 rfl ?_
  refine AW.iload_n dX7_become_6 rfl ?_
  refine TW.putI fX7_19_7 h1 (Or.inl rfl) dX7_become_7 ?_
  show AW G mX7_become (d + 1) 0 0 K 10 [some (.ref p0), some (.int p1), some (.int p2)] [] ((u2 (u2 I p0 0 p1) p0 1 p2), J, ρ)
  refine AW.aload_n dX7_become_10 rfl ?_
  obtain ⟨a2, ga2, hf⟩ := ob_split hf
  refine TW.getR (v := .ref a2) fX7_15_7 h1 (rf_some ga2) dX7_become_11 ?_
  refine AW.iconst (v := (0 : Int32)) dX7_become_14 (by decide) ?_
  obtain ⟨v3, gv3, hf⟩ := ob_split hf
  refine TW.invs (as := [.ref a2, .int (0 : Int32)]) (rest := []) stX7_22 dX7_become_15 rfl rfl (Nat.le_of_ble_eq_true rfl) (c_J7_fill_53178 hs gv3 ?_)
  show AW G mX7_become (d + 1) 0 0 K 18 [some (.ref p0), some (.int p1), some (.int p2)] [] (v3, J, ρ)
  obtain rfl := Option.some.inj hf
  exact AW.vret (st := []) dX7_become_18 rfl hK
def f_X7_hasRoom (N : Nat) (ρ : Rh) (I : Nat → Nat → Int32) (J : Nat → Nat → Int64) (p0 : Nat) (p1 : Int32) (p2 : Int32) : Option (Int32) := (if (p2 < (0 : Int32)) then some (0 : Int32) else (if ρ.2.1 p0 = (0, 7) then (if ((I p0 1) < p2) then some (0 : Int32) else (if (p1 < (0 : Int32)) then some (0 : Int32) else (if (((I p0 1) - p2) < p1) then some (0 : Int32) else some (1 : Int32)))) else none))
theorem c_X7_hasRoom {G : Gd} {d N : Nat} {K : Ah → Option Value → Prop} {ρ : Rh} {I : Nat → Nat → Int32} {J : Nat → Nat → Int64} {p0 : Nat} {p1 : Int32} {p2 : Int32} {o : Int32} (hs : Sh ρ) (hf : f_X7_hasRoom N ρ I J p0 p1 p2 = some o) (hK : K (I, J, ρ) (some (.int o))) : AM G d 0 0 mX7_hasRoom [.ref p0, .int p1, .int p2] (I, J, ρ) K := by
  unfold f_X7_hasRoom at hf
  refine AM.intro okX7_hasRoom.2.2.2.1 (Nat.le_of_ble_eq_true rfl) [some (.ref p0), some (.int p1), some (.int p2)] rfl ?_
  refine AW.iload_n dX7_hasRoom_0 rfl ?_
  refine AW.if_lt (tgt := 30) dX7_hasRoom_1 (by decide) (fun hc => ?_) (fun hc => ?_)
  · have hf := (if_pos hc).symm.trans hf
    refine AW.iconst (v := (0 : Int32)) dX7_hasRoom_30 (by decide) ?_
    obtain rfl := Option.some.inj hf
    exact AW.zret (st := []) dX7_hasRoom_31 rfl (Or.inl rfl) hK
  · have hf := (if_neg hc).symm.trans hf
    refine AW.iload_n dX7_hasRoom_4 rfl ?_
    refine AW.aload_n dX7_hasRoom_5 rfl ?_
    obtain ⟨h1, hf⟩ := gd_split hf
    refine TW.getI (x := (I p0 1)) fX7_19_7 h1 rfl dX7_hasRoom_6 ?_
    refine AW.icmp_gt (tgt := 30) dX7_hasRoom_9 (by decide) (fun hc => ?_) (fun hc => ?_)
    · have hf := (if_pos hc).symm.trans hf
      refine AW.iconst (v := (0 : Int32)) dX7_hasRoom_30 (by decide) ?_
      obtain rfl := Option.some.inj hf
      exact AW.zret (st := []) dX7_hasRoom_31 rfl (Or.inl rfl) hK
    · have hf := (if_neg hc).symm.trans hf
      refine AW.iload_n dX7_hasRoom_12 rfl ?_
      refine AW.if_lt (tgt := 30) dX7_hasRoom_13 (by decide) (fun hc => ?_) (fun hc => ?_)
      · have hf := (if_pos hc).symm.trans hf
        refine AW.iconst (v := (0 : Int32)) dX7_hasRoom_30 (by decide) ?_
        obtain rfl := Option.some.inj hf
        exact AW.zret (st := []) dX7_hasRoom_31 rfl (Or.inl rfl) hK
      · have hf := (if_neg hc).symm.trans hf
        refine AW.iload_n dX7_hasRoom_16 rfl ?_
        refine AW.aload_n dX7_hasRoom_17 rfl ?_
        refine TW.getI (x := (I p0 1)) fX7_19_7 h1 rfl dX7_hasRoom_18 ?_
        refine AW.iload_n dX7_hasRoom_21 rfl ?_
        refine AW.isub dX7_hasRoom_22 ?_
        refine AW.icmp_gt (tgt := 30) dX7_hasRoom_23 (by decide) (fun hc => ?_) (fun hc => ?_)
        · have hf := (if_pos hc).symm.trans hf
          refine AW.iconst (v := (0 : Int32)) dX7_hasRoom_30 (by decide) ?_
          obtain rfl := Option.some.inj hf
          exact AW.zret (st := []) dX7_hasRoom_31 rfl (Or.inl rfl) hK
        · have hf := (if_neg hc).symm.trans hf
          refine AW.iconst (v := (1 : Int32)) dX7_hasRoom_26 (by decide) ?_
          refine AW.goto (tgt := 31) dX7_hasRoom_27 (by decide) ?_
          obtain rfl := Option.some.inj hf
          exact AW.zret (st := []) dX7_hasRoom_31 rfl (Or.inr rfl) hK
def f_X7_holdsOnly_2 (N : Nat) (I : Nat → Nat → Int32) (J : Nat → Nat → Int64) (ρ : Rh) (a1 : Nat) (p1 : Int32) (p2 : Int32) : Nat → Int32 → Option ((Int32) ⊕ (Unit))
  | 0, _ => none
  | n + 1, i2 => (if ρ.2.1 a1 = (0, 7) then (if ((I a1 1) ≤ i2) then some (Sum.inr ()) else (Option.bind (ρ.1 a1 2) fun a4 => (if ρ.2.1 a4 = (1, (ρ.2.1 a4).2) then (if ¬ (i2 < 0 ∨ (ρ.2.1 a4).2 ≤ tn i2) then (if ((I a4 (tn i2)) < p1) then some (Sum.inl (0 : Int32)) else (Option.bind (ρ.1 a1 2) fun a7 => (if ρ.2.1 a7 = (1, (ρ.2.1 a7).2) then (if ¬ (i2 < 0 ∨ (ρ.2.1 a7).2 ≤ tn i2) then (if ((I a7 (tn i2)) ≤ p2) then f_X7_holdsOnly_2 N I J ρ a1 p1 p2 n (i2 + (1 : Int32)) else some (Sum.inl (0 : Int32))) else none) else none))) else none) else none))) else none)
theorem l_X7_holdsOnly_2 {G : Gd} {d N : Nat} {K : Ah → Option Value → Prop} {I : Nat → Nat → Int32} {J : Nat → Nat → Int64} {ρ : Rh} {a1 : Nat} {p1 : Int32} {p2 : Int32} (hs : Sh ρ) {o : (Int32) ⊕ (Unit)} : ∀ (n : Nat) (i2 : Int32), f_X7_holdsOnly_2 N I J ρ a1 p1 p2 n i2 = some o → scase o (fun r => K (I, J, ρ) (some (.int r))) (fun o => AW G mX7_holdsOnly d 0 0 K 38 [none, none, none, none] [] (I, J, ρ)) → AW G mX7_holdsOnly d 0 0 K 2 [some (.ref a1), some (.int p1), some (.int p2), some (.int i2)] [] (I, J, ρ) := by
  intro n
  induction n with
  | zero => intro i2 hf hE; rw [f_X7_holdsOnly_2.eq_1] at hf; cases hf
  | succ n ih =>
    intro i2 hf hE
    rw [f_X7_holdsOnly_2.eq_2] at hf
    refine AW.iload_n dX7_holdsOnly_2 rfl ?_
    refine AW.aload_n dX7_holdsOnly_3 rfl ?_
    obtain ⟨h3, hf⟩ := gd_split hf
    refine TW.getI (x := (I a1 1)) fX7_19_7 h3 rfl dX7_holdsOnly_4 ?_
    refine AW.icmp_ge (tgt := 38) dX7_holdsOnly_7 (by decide) (fun hc => ?_) (fun hc => ?_)
    · have hf := (if_pos hc).symm.trans hf
      obtain rfl := Option.some.inj hf
      exact AW.weak _ (by exact trivial) hE
    · have hf := (if_neg hc).symm.trans hf
      refine AW.aload_n dX7_holdsOnly_10 rfl ?_
      obtain ⟨a4, ga4, hf⟩ := ob_split hf
      refine TW.getR (v := .ref a4) fX7_15_7 h3 (rf_some ga4) dX7_holdsOnly_11 ?_
      refine AW.iload_n dX7_holdsOnly_14 rfl ?_
      obtain ⟨h5, hf⟩ := gd_split hf
      obtain ⟨h6, hf⟩ := gd_split hf
      refine TW.iald (x := (I a4 (tn i2))) h5 h6 rfl dX7_holdsOnly_15 ?_
      refine AW.iload_n dX7_holdsOnly_16 rfl ?_
      refine AW.icmp_lt (tgt := 30) dX7_holdsOnly_17 (by decide) (fun hc => ?_) (fun hc => ?_)
      · have hf := (if_pos hc).symm.trans hf
        refine AW.iconst (v := (0 : Int32)) dX7_holdsOnly_30 (by decide) ?_
        obtain rfl := Option.some.inj hf
        exact AW.zret (st := []) dX7_holdsOnly_31 rfl (Or.inl rfl) hE
      · have hf := (if_neg hc).symm.trans hf
        refine AW.aload_n dX7_holdsOnly_20 rfl ?_
        obtain ⟨a7, ga7, hf⟩ := ob_split hf
        refine TW.getR (v := .ref a7) fX7_15_7 h3 (rf_some ga7) dX7_holdsOnly_21 ?_
        refine AW.iload_n dX7_holdsOnly_24 rfl ?_
        obtain ⟨h8, hf⟩ := gd_split hf
        obtain ⟨h9, hf⟩ := gd_split hf
        refine TW.iald (x := (I a7 (tn i2))) h8 h9 rfl dX7_holdsOnly_25 ?_
        refine AW.iload_n dX7_holdsOnly_26 rfl ?_
        refine AW.icmp_le (tgt := 32) dX7_holdsOnly_27 (by decide) (fun hc => ?_) (fun hc => ?_)
        · have hf := (if_pos hc).symm.trans hf
          refine AW.iinc (v := (i2 + (1 : Int32))) (ls' := [some (.ref a1), some (.int p1), some (.int p2), some (.int (i2 + (1 : Int32)))]) dX7_holdsOnly_32 rfl rfl (Nat.le_of_ble_eq_true rfl) rfl ?_
          refine AW.goto (tgt := 2) dX7_holdsOnly_35 (by decide) ?_
          exact AW.weak _ (by exact (And.intro rfl (And.intro rfl (And.intro rfl (And.intro rfl trivial))))) (ih (i2 + (1 : Int32)) hf hE)
        · have hf := (if_neg hc).symm.trans hf
          refine AW.iconst (v := (0 : Int32)) dX7_holdsOnly_30 (by decide) ?_
          obtain rfl := Option.some.inj hf
          exact AW.zret (st := []) dX7_holdsOnly_31 rfl (Or.inl rfl) hE
def f_X7_holdsOnly (N : Nat) (ρ : Rh) (I : Nat → Nat → Int32) (J : Nat → Nat → Int64) (p0 : Nat) (p1 : Int32) (p2 : Int32) : Option (Int32) := ((f_X7_holdsOnly_2 N I J ρ p0 p1 p2 N (0 : Int32)).bind fun j10 => scase j10 (fun r => some r) (fun j10 => some (1 : Int32)))
theorem c_X7_holdsOnly {G : Gd} {d N : Nat} {K : Ah → Option Value → Prop} {ρ : Rh} {I : Nat → Nat → Int32} {J : Nat → Nat → Int64} {p0 : Nat} {p1 : Int32} {p2 : Int32} {o : Int32} (hs : Sh ρ) (hf : f_X7_holdsOnly N ρ I J p0 p1 p2 = some o) (hK : K (I, J, ρ) (some (.int o))) : AM G d 0 0 mX7_holdsOnly [.ref p0, .int p1, .int p2] (I, J, ρ) K := by
  unfold f_X7_holdsOnly at hf
  refine AM.intro okX7_holdsOnly.2.2.2.1 (Nat.le_of_ble_eq_true rfl) [some (.ref p0), some (.int p1), some (.int p2), none] rfl ?_
  refine AW.iconst (v := (0 : Int32)) dX7_holdsOnly_0 (by decide) ?_
  refine AW.istore_n (ls' := [some (.ref p0), some (.int p1), some (.int p2), some (.int (0 : Int32))]) dX7_holdsOnly_1 (Nat.le_of_ble_eq_true rfl) rfl ?_
  obtain ⟨j10, gj10, hf⟩ := ob_split hf
  refine AW.weak _ (by exact (And.intro rfl (And.intro rfl (And.intro rfl (And.intro rfl trivial))))) (l_X7_holdsOnly_2 hs N (0 : Int32) gj10 ?_)
  rcases j10 with r | j10
  · obtain rfl := Option.some.inj hf; exact hK
  · show AW G mX7_holdsOnly d 0 0 K 38 [none, none, none, none] [] (I, J, ρ)
    refine AW.iconst (v := (1 : Int32)) dX7_holdsOnly_38 (by decide) ?_
    obtain rfl := Option.some.inj hf
    exact AW.zret (st := []) dX7_holdsOnly_39 rfl (Or.inr rfl) hK
def f_X7_cut (N : Nat) (ρ : Rh) (I : Nat → Nat → Int32) (J : Nat → Nat → Int64) (p0 : Nat) (p1 : Int32) : Option (Int32) := (if ρ.2.1 p0 = (0, 7) then (if ((I p0 0) = (0 : Int32)) then some (p1.toInt8.toInt32) else (if ((I p0 0) = (1 : Int32)) then some (p1.toInt16.toInt32) else some p1)) else none)
theorem c_X7_cut {G : Gd} {d N : Nat} {K : Ah → Option Value → Prop} {ρ : Rh} {I : Nat → Nat → Int32} {J : Nat → Nat → Int64} {p0 : Nat} {p1 : Int32} {o : Int32} (hs : Sh ρ) (hf : f_X7_cut N ρ I J p0 p1 = some o) (hK : K (I, J, ρ) (some (.int o))) : AM G d 0 0 mX7_cut [.ref p0, .int p1] (I, J, ρ) K := by
  unfold f_X7_cut at hf
  refine AM.intro okX7_cut.2.2.2.1 (Nat.le_of_ble_eq_true rfl) [some (.ref p0), some (.int p1)] rfl ?_
  refine AW.aload_n dX7_cut_0 rfl ?_
  obtain ⟨h1, hf⟩ := gd_split hf
  refine TW.getI (x := (I p0 0)) fX7_9_7 h1 rfl dX7_cut_1 ?_
  refine AW.if_ne (tgt := 10) dX7_cut_4 (by decide) (fun hc => ?_) (fun hc => ?_)
  · have hf := (if_neg hc).symm.trans hf
    refine AW.aload_n dX7_cut_10 rfl ?_
    refine TW.getI (x := (I p0 0)) fX7_9_7 h1 rfl dX7_cut_11 ?_
    refine AW.iconst (v := (1 : Int32)) dX7_cut_14 (by decide) ?_
    refine AW.icmp_ne (tgt := 23) dX7_cut_15 (by decide) (fun hc => ?_) (fun hc => ?_)
    · have hf := (if_neg hc).symm.trans hf
      refine AW.iload_n dX7_cut_23 rfl ?_
      obtain rfl := Option.some.inj hf
      exact AW.iret (st := []) dX7_cut_24 rfl hK
    · have hf := (if_pos hc).symm.trans hf
      refine AW.iload_n dX7_cut_18 rfl ?_
      refine AW.i2s dX7_cut_19 ?_
      refine AW.goto (tgt := 24) dX7_cut_20 (by decide) ?_
      obtain rfl := Option.some.inj hf
      exact AW.iret (st := []) dX7_cut_24 rfl hK
  · have hf := (if_pos hc).symm.trans hf
    refine AW.iload_n dX7_cut_7 rfl ?_
    refine AW.i2b dX7_cut_8 ?_
    obtain rfl := Option.some.inj hf
    exact AW.iret (st := []) dX7_cut_9 rfl hK
def f_X8_append_5 (N : Nat) (J : Nat → Nat → Int64) (ρ : Rh) (p1 : Int64) : Nat → (Nat → Nat → Int32) → Int32 → Option ((Nat → Nat → Int32))
  | 0, _, _ => none
  | n + 1, I1, i2 => (if (i2 < (0 : Int32)) then some I1 else (if ((160 : Int32) ≤ (I1 35 1)) then some I1 else (bnd (((p1 >>> (((8 : Int32) * i2).toInt64 &&& 63)).toInt32).toInt8.toInt32) fun x3 => (if ¬ ((I1 35 1) < 0 ∨ 160 ≤ tn (I1 35 1)) then f_X8_append_5 N J ρ p1 n (u2 (u2 I1 36 (tn (I1 35 1)) (x3.toInt8.toInt32)) 35 1 ((I1 35 1) + (1 : Int32))) (i2 + (-1 : Int32)) else none))))
theorem l_X8_append_5 {G : Gd} {d N : Nat} {K : Ah → Option Value → Prop} {J : Nat → Nat → Int64} {ρ : Rh} {p1 : Int64} (hs : Sh ρ) {o : (Nat → Nat → Int32)} : ∀ (n : Nat) (I1 : Nat → Nat → Int32) (i2 : Int32), f_X8_append_5 N J ρ p1 n I1 i2 = some o → AW G mX8_append d 0 0 K 54 [none, none, none, none, none] [] (o, J, ρ) → AW G mX8_append d 0 0 K 5 [some (.ref 35), some (.long p1), none, none, some (.int i2)] [] (I1, J, ρ) := by
  intro n
  induction n with
  | zero => intro I1 i2 hf hE; rw [f_X8_append_5.eq_1] at hf; cases hf
  | succ n ih =>
    intro I1 i2 hf hE
    rw [f_X8_append_5.eq_2] at hf
    refine AW.iload dX8_append_5 rfl ?_
    refine AW.if_lt (tgt := 54) dX8_append_7 (by decide) (fun hc => ?_) (fun hc => ?_)
    · have hf := (if_pos hc).symm.trans hf
      obtain rfl := Option.some.inj hf
      exact AW.weak _ (by exact trivial) hE
    · have hf := (if_neg hc).symm.trans hf
      refine AW.aload_n dX8_append_10 rfl ?_
      refine TW.getI (x := (I1 35 1)) fX8_19_8 hs.k35 rfl dX8_append_11 ?_
      refine AW.sipush (v := (160 : Int32)) dX8_append_14 (by decide) ?_
      refine AW.icmp_ge (tgt := 54) dX8_append_17 (by decide) (fun hc => ?_) (fun hc => ?_)
      · have hf := (if_pos hc).symm.trans hf
        obtain rfl := Option.some.inj hf
        exact AW.weak _ (by exact trivial) hE
      · have hf := (if_neg hc).symm.trans hf
        refine AW.aload_n dX8_append_20 rfl ?_
        refine TW.getR fX8_9_8 hs.k35 (rf_some hs.r35_0) dX8_append_21 ?_
        refine AW.aload_n dX8_append_24 rfl ?_
        refine TW.getI (x := (I1 35 1)) fX8_19_8 hs.k35 rfl dX8_append_25 ?_
        refine AW.lload_n dX8_append_28 rfl ?_
        refine AW.bipush (v := (8 : Int32)) dX8_append_29 (by decide) ?_
        refine AW.iload dX8_append_31 rfl ?_
        refine AW.imul dX8_append_33 ?_
        refine AW.lshr dX8_append_34 ?_
        refine AW.l2i dX8_append_35 ?_
        refine AW.i2b dX8_append_36 ?_
        obtain ⟨x3, gx3, hf⟩ := bnd_one hf
        refine AW.nmI gx3 ?_
        obtain ⟨h4, hf⟩ := gd_split hf
        refine TW.bast hs.k36 h4 dX8_append_37 ?_
        show AW G mX8_append d 0 0 K 38 [some (.ref 35), some (.long p1), none, none, some (.int i2)] [] ((u2 I1 36 (tn (I1 35 1)) (x3.toInt8.toInt32)), J, ρ)
        refine AW.aload_n dX8_append_38 rfl ?_
        refine AW.dup dX8_append_39 rfl ?_
        refine TW.getI (x := (I1 35 1)) fX8_19_8 hs.k35 (u2_ne (by decide)) dX8_append_40 ?_
        refine AW.iconst (v := (1 : Int32)) dX8_append_43 (by decide) ?_
        refine AW.iadd dX8_append_44 ?_
        refine TW.putI fX8_19_8 hs.k35 (Or.inl rfl) dX8_append_45 ?_
        show AW G mX8_append d 0 0 K 48 [some (.ref 35), some (.long p1), none, none, some (.int i2)] [] ((u2 (u2 I1 36 (tn (I1 35 1)) (x3.toInt8.toInt32)) 35 1 ((I1 35 1) + (1 : Int32))), J, ρ)
        refine AW.iinc (v := (i2 + (-1 : Int32))) (ls' := [some (.ref 35), some (.long p1), none, none, some (.int (i2 + (-1 : Int32)))]) dX8_append_48 rfl rfl (Nat.le_of_ble_eq_true rfl) rfl ?_
        refine AW.goto (tgt := 5) dX8_append_51 (by decide) ?_
        exact AW.weak _ (by exact (And.intro rfl (And.intro rfl (And.intro rfl trivial)))) (ih (u2 (u2 I1 36 (tn (I1 35 1)) (x3.toInt8.toInt32)) 35 1 ((I1 35 1) + (1 : Int32))) (i2 + (-1 : Int32)) hf hE)
def f_X8_append (N : Nat) (ρ : Rh) (I : Nat → Nat → Int32) (J : Nat → Nat → Int64) (p1 : Int64) (p2 : Int32) : Option ((Nat → Nat → Int32)) := ((f_X8_append_5 N J ρ p1 N I (p2 - (1 : Int32))).bind fun j5 => some j5)
theorem c_X8_append {G : Gd} {d N : Nat} {K : Ah → Option Value → Prop} {ρ : Rh} {I : Nat → Nat → Int32} {J : Nat → Nat → Int64} {p1 : Int64} {p2 : Int32} {o : (Nat → Nat → Int32)} (hs : Sh ρ) (hf : f_X8_append N ρ I J p1 p2 = some o) (hK : K (o, J, ρ) none) : AM G d 0 0 mX8_append [.ref 35, .long p1, .int p2] (I, J, ρ) K := by
  unfold f_X8_append at hf
  refine AM.intro okX8_append.2.2.2.1 (Nat.le_of_ble_eq_true rfl) [some (.ref 35), some (.long p1), none, some (.int p2), none] rfl ?_
  refine AW.iload_n dX8_append_0 rfl ?_
  refine AW.iconst (v := (1 : Int32)) dX8_append_1 (by decide) ?_
  refine AW.isub dX8_append_2 ?_
  refine AW.istore (ls' := [some (.ref 35), some (.long p1), none, some (.int p2), some (.int (p2 - (1 : Int32)))]) dX8_append_3 (Nat.le_of_ble_eq_true rfl) rfl ?_
  obtain ⟨j5, gj5, hf⟩ := ob_split hf
  refine AW.weak _ (by exact (And.intro rfl (And.intro rfl (And.intro rfl trivial)))) (l_X8_append_5 hs N I (p2 - (1 : Int32)) gj5 ?_)
  show AW G mX8_append d 0 0 K 54 [none, none, none, none, none] [] (j5, J, ρ)
  obtain rfl := Option.some.inj hf
  exact AW.vret (st := []) dX8_append_54 rfl hK
def f_X8_put (N : Nat) (ρ : Rh) (I : Nat → Nat → Int32) (J : Nat → Nat → Int64) (p1 : Int32) : Option ((Nat → Nat → Int32) × Int32) := (if ((I 35 3) < (160 : Int32)) then (if ¬ ((I 35 3) < 0 ∨ 160 ≤ tn (I 35 3)) then some ((u2 (u2 I 37 (tn (I 35 3)) p1) 35 3 ((I 35 3) + (1 : Int32))), (1 : Int32)) else none) else some (I, (0 : Int32)))
theorem c_X8_put {G : Gd} {d N : Nat} {K : Ah → Option Value → Prop} {ρ : Rh} {I : Nat → Nat → Int32} {J : Nat → Nat → Int64} {p1 : Int32} {o : (Nat → Nat → Int32) × Int32} (hs : Sh ρ) (hf : f_X8_put N ρ I J p1 = some o) (hK : K (o.1, J, ρ) (some (.int o.2))) : AM G d 0 0 mX8_put [.ref 35, .int p1] (I, J, ρ) K := by
  unfold f_X8_put at hf
  refine AM.intro okX8_put.2.2.2.1 (Nat.le_of_ble_eq_true rfl) [some (.ref 35), some (.int p1)] rfl ?_
  refine AW.aload_n dX8_put_0 rfl ?_
  refine TW.getI (x := (I 35 3)) fX8_23_8 hs.k35 rfl dX8_put_1 ?_
  refine AW.sipush (v := (160 : Int32)) dX8_put_4 (by decide) ?_
  refine AW.icmp_lt (tgt := 12) dX8_put_7 (by decide) (fun hc => ?_) (fun hc => ?_)
  · have hf := (if_pos hc).symm.trans hf
    refine AW.aload_n dX8_put_12 rfl ?_
    refine TW.getR fX8_15_8 hs.k35 (rf_some hs.r35_2) dX8_put_13 ?_
    refine AW.aload_n dX8_put_16 rfl ?_
    refine TW.getI (x := (I 35 3)) fX8_23_8 hs.k35 rfl dX8_put_17 ?_
    refine AW.iload_n dX8_put_20 rfl ?_
    obtain ⟨h1, hf⟩ := gd_split hf
    refine TW.iast hs.k37 h1 dX8_put_21 ?_
    show AW G mX8_put d 0 0 K 22 [some (.ref 35), some (.int p1)] [] ((u2 I 37 (tn (I 35 3)) p1), J, ρ)
    refine AW.aload_n dX8_put_22 rfl ?_
    refine AW.dup dX8_put_23 rfl ?_
    refine TW.getI (x := (I 35 3)) fX8_23_8 hs.k35 (u2_ne (by decide)) dX8_put_24 ?_
    refine AW.iconst (v := (1 : Int32)) dX8_put_27 (by decide) ?_
    refine AW.iadd dX8_put_28 ?_
    refine TW.putI fX8_23_8 hs.k35 (Or.inl rfl) dX8_put_29 ?_
    show AW G mX8_put d 0 0 K 32 [some (.ref 35), some (.int p1)] [] ((u2 (u2 I 37 (tn (I 35 3)) p1) 35 3 ((I 35 3) + (1 : Int32))), J, ρ)
    refine AW.iconst (v := (1 : Int32)) dX8_put_32 (by decide) ?_
    obtain rfl := Option.some.inj hf
    exact AW.zret (st := []) dX8_put_33 rfl (Or.inr rfl) hK
  · have hf := (if_neg hc).symm.trans hf
    refine AW.iconst (v := (0 : Int32)) dX8_put_10 (by decide) ?_
    obtain rfl := Option.some.inj hf
    exact AW.zret (st := []) dX8_put_11 rfl (Or.inl rfl) hK
def f_X8_tightnessOf (N : Nat) (ρ : Rh) (I : Nat → Nat → Int32) (J : Nat → Nat → Int64) (p1 : Int32) : Option (Int32) := (if p1 = (-15 : Int32) then some (4 : Int32) else (if p1 = (-14 : Int32) then some (3 : Int32) else (if p1 = (-13 : Int32) then some (3 : Int32) else (if p1 = (-12 : Int32) then some (2 : Int32) else (if p1 = (-11 : Int32) then some (2 : Int32) else (if p1 = (-10 : Int32) then some (1 : Int32) else (if p1 = (-9 : Int32) then some (0 : Int32) else some (-1 : Int32))))))))
theorem c_X8_tightnessOf {G : Gd} {d N : Nat} {K : Ah → Option Value → Prop} {ρ : Rh} {I : Nat → Nat → Int32} {J : Nat → Nat → Int64} {p1 : Int32} {o : Int32} (hs : Sh ρ) (hf : f_X8_tightnessOf N ρ I J p1 = some o) (hK : K (I, J, ρ) (some (.int o))) : AM G d 0 0 mX8_tightnessOf [.int p1] (I, J, ρ) K := by
  unfold f_X8_tightnessOf at hf
  refine AM.intro okX8_tightnessOf.2.2.2.1 (Nat.le_of_ble_eq_true rfl) [some (.int p1)] rfl ?_
  refine AW.iload_n dX8_tightnessOf_0 rfl ?_
  by_cases hcm15 : p1 = (-15 : Int32)
  · have hf := (if_pos hcm15).symm.trans hf
    refine AW.swIn (tgt := 52) dX8_tightnessOf_1 (by rw [hcm15]; decide) (by rw [hcm15]; decide) (by rw [hcm15]; rfl) (by decide) ?_
    refine AW.iconst (v := (4 : Int32)) dX8_tightnessOf_52 (by decide) ?_
    obtain rfl := Option.some.inj hf
    exact AW.iret (st := []) dX8_tightnessOf_53 rfl hK
  have hf := (if_neg hcm15).symm.trans hf
  by_cases hcm14 : p1 = (-14 : Int32)
  · have hf := (if_pos hcm14).symm.trans hf
    refine AW.swIn (tgt := 50) dX8_tightnessOf_1 (by rw [hcm14]; decide) (by rw [hcm14]; decide) (by rw [hcm14]; rfl) (by decide) ?_
    refine AW.iconst (v := (3 : Int32)) dX8_tightnessOf_50 (by decide) ?_
    obtain rfl := Option.some.inj hf
    exact AW.iret (st := []) dX8_tightnessOf_51 rfl hK
  have hf := (if_neg hcm14).symm.trans hf
  by_cases hcm13 : p1 = (-13 : Int32)
  · have hf := (if_pos hcm13).symm.trans hf
    refine AW.swIn (tgt := 50) dX8_tightnessOf_1 (by rw [hcm13]; decide) (by rw [hcm13]; decide) (by rw [hcm13]; rfl) (by decide) ?_
    refine AW.iconst (v := (3 : Int32)) dX8_tightnessOf_50 (by decide) ?_
    obtain rfl := Option.some.inj hf
    exact AW.iret (st := []) dX8_tightnessOf_51 rfl hK
  have hf := (if_neg hcm13).symm.trans hf
  by_cases hcm12 : p1 = (-12 : Int32)
  · have hf := (if_pos hcm12).symm.trans hf
    refine AW.swIn (tgt := 48) dX8_tightnessOf_1 (by rw [hcm12]; decide) (by rw [hcm12]; decide) (by rw [hcm12]; rfl) (by decide) ?_
    refine AW.iconst (v := (2 : Int32)) dX8_tightnessOf_48 (by decide) ?_
    obtain rfl := Option.some.inj hf
    exact AW.iret (st := []) dX8_tightnessOf_49 rfl hK
  have hf := (if_neg hcm12).symm.trans hf
  by_cases hcm11 : p1 = (-11 : Int32)
  · have hf := (if_pos hcm11).symm.trans hf
    refine AW.swIn (tgt := 48) dX8_tightnessOf_1 (by rw [hcm11]; decide) (by rw [hcm11]; decide) (by rw [hcm11]; rfl) (by decide) ?_
    refine AW.iconst (v := (2 : Int32)) dX8_tightnessOf_48 (by decide) ?_
    obtain rfl := Option.some.inj hf
    exact AW.iret (st := []) dX8_tightnessOf_49 rfl hK
  have hf := (if_neg hcm11).symm.trans hf
  by_cases hcm10 : p1 = (-10 : Int32)
  · have hf := (if_pos hcm10).symm.trans hf
    refine AW.swIn (tgt := 46) dX8_tightnessOf_1 (by rw [hcm10]; decide) (by rw [hcm10]; decide) (by rw [hcm10]; rfl) (by decide) ?_
    refine AW.iconst (v := (1 : Int32)) dX8_tightnessOf_46 (by decide) ?_
    obtain rfl := Option.some.inj hf
    exact AW.iret (st := []) dX8_tightnessOf_47 rfl hK
  have hf := (if_neg hcm10).symm.trans hf
  by_cases hcm9 : p1 = (-9 : Int32)
  · have hf := (if_pos hcm9).symm.trans hf
    refine AW.swIn (tgt := 44) dX8_tightnessOf_1 (by rw [hcm9]; decide) (by rw [hcm9]; decide) (by rw [hcm9]; rfl) (by decide) ?_
    refine AW.iconst (v := (0 : Int32)) dX8_tightnessOf_44 (by decide) ?_
    obtain rfl := Option.some.inj hf
    exact AW.iret (st := []) dX8_tightnessOf_45 rfl hK
  have hf := (if_neg hcm9).symm.trans hf
  have KD : AW G mX8_tightnessOf d 0 0 K 54 [some (.int p1)] [] (I, J, ρ) := by
    refine AW.iconst (v := (-1 : Int32)) dX8_tightnessOf_54 (by decide) ?_
    obtain rfl := Option.some.inj hf
    exact AW.iret (st := []) dX8_tightnessOf_55 rfl hK
  have hcm15 : ¬ (p1).toInt = -15 := fun q => hcm15 (Int32.toInt_inj.mp q)
  have hcm14 : ¬ (p1).toInt = -14 := fun q => hcm14 (Int32.toInt_inj.mp q)
  have hcm13 : ¬ (p1).toInt = -13 := fun q => hcm13 (Int32.toInt_inj.mp q)
  have hcm12 : ¬ (p1).toInt = -12 := fun q => hcm12 (Int32.toInt_inj.mp q)
  have hcm11 : ¬ (p1).toInt = -11 := fun q => hcm11 (Int32.toInt_inj.mp q)
  have hcm10 : ¬ (p1).toInt = -10 := fun q => hcm10 (Int32.toInt_inj.mp q)
  have hcm9 : ¬ (p1).toInt = -9 := fun q => hcm9 (Int32.toInt_inj.mp q)
  exact AW.swOut dX8_tightnessOf_1 (by omega) (by decide) KD
def f_X8_isLetter (N : Nat) (ρ : Rh) (I : Nat → Nat → Int32) (J : Nat → Nat → Int64) (p1 : Int32) : Option (Int32) := (if (p1 < (97 : Int32)) then some (0 : Int32) else (if ((122 : Int32) < p1) then some (0 : Int32) else some (1 : Int32)))
theorem c_X8_isLetter {G : Gd} {d N : Nat} {K : Ah → Option Value → Prop} {ρ : Rh} {I : Nat → Nat → Int32} {J : Nat → Nat → Int64} {p1 : Int32} {o : Int32} (hs : Sh ρ) (hf : f_X8_isLetter N ρ I J p1 = some o) (hK : K (I, J, ρ) (some (.int o))) : AM G d 0 0 mX8_isLetter [.int p1] (I, J, ρ) K := by
  unfold f_X8_isLetter at hf
  refine AM.intro okX8_isLetter.2.2.2.1 (Nat.le_of_ble_eq_true rfl) [some (.int p1)] rfl ?_
  refine AW.iload_n dX8_isLetter_0 rfl ?_
  refine AW.bipush (v := (97 : Int32)) dX8_isLetter_1 (by decide) ?_
  refine AW.icmp_lt (tgt := 16) dX8_isLetter_3 (by decide) (fun hc => ?_) (fun hc => ?_)
  · have hf := (if_pos hc).symm.trans hf
    refine AW.iconst (v := (0 : Int32)) dX8_isLetter_16 (by decide) ?_
    obtain rfl := Option.some.inj hf
    exact AW.zret (st := []) dX8_isLetter_17 rfl (Or.inl rfl) hK
  · have hf := (if_neg hc).symm.trans hf
    refine AW.iload_n dX8_isLetter_6 rfl ?_
    refine AW.bipush (v := (122 : Int32)) dX8_isLetter_7 (by decide) ?_
    refine AW.icmp_gt (tgt := 16) dX8_isLetter_9 (by decide) (fun hc => ?_) (fun hc => ?_)
    · have hf := (if_pos hc).symm.trans hf
      refine AW.iconst (v := (0 : Int32)) dX8_isLetter_16 (by decide) ?_
      obtain rfl := Option.some.inj hf
      exact AW.zret (st := []) dX8_isLetter_17 rfl (Or.inl rfl) hK
    · have hf := (if_neg hc).symm.trans hf
      refine AW.iconst (v := (1 : Int32)) dX8_isLetter_12 (by decide) ?_
      refine AW.goto (tgt := 17) dX8_isLetter_13 (by decide) ?_
      obtain rfl := Option.some.inj hf
      exact AW.zret (st := []) dX8_isLetter_17 rfl (Or.inr rfl) hK
def f_X8_isDigit (N : Nat) (ρ : Rh) (I : Nat → Nat → Int32) (J : Nat → Nat → Int64) (p1 : Int32) : Option (Int32) := (if (p1 < (48 : Int32)) then some (0 : Int32) else (if ((57 : Int32) < p1) then some (0 : Int32) else some (1 : Int32)))
theorem c_X8_isDigit {G : Gd} {d N : Nat} {K : Ah → Option Value → Prop} {ρ : Rh} {I : Nat → Nat → Int32} {J : Nat → Nat → Int64} {p1 : Int32} {o : Int32} (hs : Sh ρ) (hf : f_X8_isDigit N ρ I J p1 = some o) (hK : K (I, J, ρ) (some (.int o))) : AM G d 0 0 mX8_isDigit [.int p1] (I, J, ρ) K := by
  unfold f_X8_isDigit at hf
  refine AM.intro okX8_isDigit.2.2.2.1 (Nat.le_of_ble_eq_true rfl) [some (.int p1)] rfl ?_
  refine AW.iload_n dX8_isDigit_0 rfl ?_
  refine AW.bipush (v := (48 : Int32)) dX8_isDigit_1 (by decide) ?_
  refine AW.icmp_lt (tgt := 16) dX8_isDigit_3 (by decide) (fun hc => ?_) (fun hc => ?_)
  · have hf := (if_pos hc).symm.trans hf
    refine AW.iconst (v := (0 : Int32)) dX8_isDigit_16 (by decide) ?_
    obtain rfl := Option.some.inj hf
    exact AW.zret (st := []) dX8_isDigit_17 rfl (Or.inl rfl) hK
  · have hf := (if_neg hc).symm.trans hf
    refine AW.iload_n dX8_isDigit_6 rfl ?_
    refine AW.bipush (v := (57 : Int32)) dX8_isDigit_7 (by decide) ?_
    refine AW.icmp_gt (tgt := 16) dX8_isDigit_9 (by decide) (fun hc => ?_) (fun hc => ?_)
    · have hf := (if_pos hc).symm.trans hf
      refine AW.iconst (v := (0 : Int32)) dX8_isDigit_16 (by decide) ?_
      obtain rfl := Option.some.inj hf
      exact AW.zret (st := []) dX8_isDigit_17 rfl (Or.inl rfl) hK
    · have hf := (if_neg hc).symm.trans hf
      refine AW.iconst (v := (1 : Int32)) dX8_isDigit_12 (by decide) ?_
      refine AW.goto (tgt := 17) dX8_isDigit_13 (by decide) ?_
      obtain rfl := Option.some.inj hf
      exact AW.zret (st := []) dX8_isDigit_17 rfl (Or.inr rfl) hK
def f_X8_number_23 (N : Nat) (I : Nat → Nat → Int32) (J : Nat → Nat → Int64) (ρ : Rh) : Nat → Int32 → Int32 → Option (Int32)
  | 0, _, _ => none
  | n + 1, i1, i2 => (if ((I 35 7) ≤ i2) then some i1 else (if ¬ (i2 < 0 ∨ 160 ≤ tn i2) then (bnd (((10 : Int32) * i1) + ((I 36 (tn i2)) - (48 : Int32))) fun x4 => f_X8_number_23 N I J ρ n x4 (i2 + (1 : Int32))) else none))
theorem l_X8_number_23 {G : Gd} {d N : Nat} {K : Ah → Option Value → Prop} {I : Nat → Nat → Int32} {J : Nat → Nat → Int64} {ρ : Rh} (hs : Sh ρ) {o : Int32} : ∀ (n : Nat) (i1 : Int32) (i2 : Int32), f_X8_number_23 N I J ρ n i1 i2 = some o → AW G mX8_number d 0 0 K 52 [none, some (.int o), none] [] (I, J, ρ) → AW G mX8_number d 0 0 K 23 [some (.ref 35), some (.int i1), some (.int i2)] [] (I, J, ρ) := by
  intro n
  induction n with
  | zero => intro i1 i2 hf hE; rw [f_X8_number_23.eq_1] at hf; cases hf
  | succ n ih =>
    intro i1 i2 hf hE
    rw [f_X8_number_23.eq_2] at hf
    refine AW.iload_n dX8_number_23 rfl ?_
    refine AW.aload_n dX8_number_24 rfl ?_
    refine TW.getI (x := (I 35 7)) fX8_29_8 hs.k35 rfl dX8_number_25 ?_
    refine AW.icmp_ge (tgt := 52) dX8_number_28 (by decide) (fun hc => ?_) (fun hc => ?_)
    · have hf := (if_pos hc).symm.trans hf
      obtain rfl := Option.some.inj hf
      exact AW.weak _ (by exact (And.intro rfl trivial)) hE
    · have hf := (if_neg hc).symm.trans hf
      refine AW.bipush (v := (10 : Int32)) dX8_number_31 (by decide) ?_
      refine AW.iload_n dX8_number_33 rfl ?_
      refine AW.imul dX8_number_34 ?_
      refine AW.aload_n dX8_number_35 rfl ?_
      refine TW.getR fX8_9_8 hs.k35 (rf_some hs.r35_0) dX8_number_36 ?_
      refine AW.iload_n dX8_number_39 rfl ?_
      obtain ⟨h3, hf⟩ := gd_split hf
      refine TW.bald (x := (I 36 (tn i2))) hs.k36 h3 rfl dX8_number_40 ?_
      refine AW.bipush (v := (48 : Int32)) dX8_number_41 (by decide) ?_
      refine AW.isub dX8_number_43 ?_
      refine AW.iadd dX8_number_44 ?_
      obtain ⟨x4, gx4, hf⟩ := bnd_one hf
      refine AW.nmI gx4 ?_
      refine AW.istore_n (ls' := [some (.ref 35), some (.int x4), some (.int i2)]) dX8_number_45 (Nat.le_of_ble_eq_true rfl) rfl ?_
      refine AW.iinc (v := (i2 + (1 : Int32))) (ls' := [some (.ref 35), some (.int x4), some (.int (i2 + (1 : Int32)))]) dX8_number_46 rfl rfl (Nat.le_of_ble_eq_true rfl) rfl ?_
      refine AW.goto (tgt := 23) dX8_number_49 (by decide) ?_
      exact AW.weak _ (by exact (And.intro rfl (And.intro rfl (And.intro rfl trivial)))) (ih x4 (i2 + (1 : Int32)) hf hE)
def f_X8_number (N : Nat) (ρ : Rh) (I : Nat → Nat → Int32) (J : Nat → Nat → Int64) : Option (Int32) := (if (((I 35 7) - (I 35 6)) ≤ (4 : Int32)) then ((f_X8_number_23 N I J ρ N (0 : Int32) (I 35 6)).bind fun j5 => some j5) else some (-22 : Int32))
theorem c_X8_number {G : Gd} {d N : Nat} {K : Ah → Option Value → Prop} {ρ : Rh} {I : Nat → Nat → Int32} {J : Nat → Nat → Int64} {o : Int32} (hs : Sh ρ) (hf : f_X8_number N ρ I J = some o) (hK : K (I, J, ρ) (some (.int o))) : AM G d 0 0 mX8_number [.ref 35] (I, J, ρ) K := by
  unfold f_X8_number at hf
  refine AM.intro okX8_number.2.2.2.1 (Nat.le_of_ble_eq_true rfl) [some (.ref 35), none, none] rfl ?_
  refine AW.aload_n dX8_number_0 rfl ?_
  refine TW.getI (x := (I 35 7)) fX8_29_8 hs.k35 rfl dX8_number_1 ?_
  refine AW.aload_n dX8_number_4 rfl ?_
  refine TW.getI (x := (I 35 6)) fX8_56_8 hs.k35 rfl dX8_number_5 ?_
  refine AW.isub dX8_number_8 ?_
  refine AW.iconst (v := (4 : Int32)) dX8_number_9 (by decide) ?_
  refine AW.icmp_le (tgt := 16) dX8_number_10 (by decide) (fun hc => ?_) (fun hc => ?_)
  · have hf := (if_pos hc).symm.trans hf
    refine AW.iconst (v := (0 : Int32)) dX8_number_16 (by decide) ?_
    refine AW.istore_n (ls' := [some (.ref 35), some (.int (0 : Int32)), none]) dX8_number_17 (Nat.le_of_ble_eq_true rfl) rfl ?_
    refine AW.aload_n dX8_number_18 rfl ?_
    refine TW.getI (x := (I 35 6)) fX8_56_8 hs.k35 rfl dX8_number_19 ?_
    refine AW.istore_n (ls' := [some (.ref 35), some (.int (0 : Int32)), some (.int (I 35 6))]) dX8_number_22 (Nat.le_of_ble_eq_true rfl) rfl ?_
    obtain ⟨j5, gj5, hf⟩ := ob_split hf
    refine AW.weak _ (by exact (And.intro rfl (And.intro rfl (And.intro rfl trivial)))) (l_X8_number_23 hs N (0 : Int32) (I 35 6) gj5 ?_)
    show AW G mX8_number d 0 0 K 52 [none, some (.int j5), none] [] (I, J, ρ)
    refine AW.iload_n dX8_number_52 rfl ?_
    obtain rfl := Option.some.inj hf
    exact AW.iret (st := []) dX8_number_53 rfl hK
  · have hf := (if_neg hc).symm.trans hf
    refine AW.bipush (v := (-22 : Int32)) dX8_number_13 (by decide) ?_
    obtain rfl := Option.some.inj hf
    exact AW.iret (st := []) dX8_number_15 rfl hK
def f_X8_sign (N : Nat) (ρ : Rh) (I : Nat → Nat → Int32) (J : Nat → Nat → Int64) (p1 : Int32) : Option (Int32) := (if p1 = (40 : Int32) then some (-18 : Int32) else (if p1 = (41 : Int32) then some (-19 : Int32) else (if p1 = (42 : Int32) then some (-15 : Int32) else (if p1 = (43 : Int32) then some (-13 : Int32) else (if p1 = (45 : Int32) then some (-14 : Int32) else (if p1 = (59 : Int32) then some (-20 : Int32) else (if p1 = (60 : Int32) then some (-11 : Int32) else (if p1 = (61 : Int32) then some (-12 : Int32) else some (-22 : Int32)))))))))
theorem c_X8_sign {G : Gd} {d N : Nat} {K : Ah → Option Value → Prop} {ρ : Rh} {I : Nat → Nat → Int32} {J : Nat → Nat → Int64} {p1 : Int32} {o : Int32} (hs : Sh ρ) (hf : f_X8_sign N ρ I J p1 = some o) (hK : K (I, J, ρ) (some (.int o))) : AM G d 0 0 mX8_sign [.int p1] (I, J, ρ) K := by
  unfold f_X8_sign at hf
  refine AM.intro okX8_sign.2.2.2.1 (Nat.le_of_ble_eq_true rfl) [some (.int p1)] rfl ?_
  refine AW.iload_n dX8_sign_0 rfl ?_
  by_cases hc40 : p1 = (40 : Int32)
  · have hf := (if_pos hc40).symm.trans hf
    refine AW.swIn (tgt := 104) dX8_sign_1 (by rw [hc40]; decide) (by rw [hc40]; decide) (by rw [hc40]; rfl) (by decide) ?_
    refine AW.bipush (v := (-18 : Int32)) dX8_sign_104 (by decide) ?_
    obtain rfl := Option.some.inj hf
    exact AW.iret (st := []) dX8_sign_106 rfl hK
  have hf := (if_neg hc40).symm.trans hf
  by_cases hc41 : p1 = (41 : Int32)
  · have hf := (if_pos hc41).symm.trans hf
    refine AW.swIn (tgt := 107) dX8_sign_1 (by rw [hc41]; decide) (by rw [hc41]; decide) (by rw [hc41]; rfl) (by decide) ?_
    refine AW.bipush (v := (-19 : Int32)) dX8_sign_107 (by decide) ?_
    obtain rfl := Option.some.inj hf
    exact AW.iret (st := []) dX8_sign_109 rfl hK
  have hf := (if_neg hc41).symm.trans hf
  by_cases hc42 : p1 = (42 : Int32)
  · have hf := (if_pos hc42).symm.trans hf
    refine AW.swIn (tgt := 119) dX8_sign_1 (by rw [hc42]; decide) (by rw [hc42]; decide) (by rw [hc42]; rfl) (by decide) ?_
    refine AW.bipush (v := (-15 : Int32)) dX8_sign_119 (by decide) ?_
    obtain rfl := Option.some.inj hf
    exact AW.iret (st := []) dX8_sign_121 rfl hK
  have hf := (if_neg hc42).symm.trans hf
  by_cases hc43 : p1 = (43 : Int32)
  · have hf := (if_pos hc43).symm.trans hf
    refine AW.swIn (tgt := 113) dX8_sign_1 (by rw [hc43]; decide) (by rw [hc43]; decide) (by rw [hc43]; rfl) (by decide) ?_
    refine AW.bipush (v := (-13 : Int32)) dX8_sign_113 (by decide) ?_
    obtain rfl := Option.some.inj hf
    exact AW.iret (st := []) dX8_sign_115 rfl hK
  have hf := (if_neg hc43).symm.trans hf
  by_cases hc45 : p1 = (45 : Int32)
  · have hf := (if_pos hc45).symm.trans hf
    refine AW.swIn (tgt := 116) dX8_sign_1 (by rw [hc45]; decide) (by rw [hc45]; decide) (by rw [hc45]; rfl) (by decide) ?_
    refine AW.bipush (v := (-14 : Int32)) dX8_sign_116 (by decide) ?_
    obtain rfl := Option.some.inj hf
    exact AW.iret (st := []) dX8_sign_118 rfl hK
  have hf := (if_neg hc45).symm.trans hf
  by_cases hc59 : p1 = (59 : Int32)
  · have hf := (if_pos hc59).symm.trans hf
    refine AW.swIn (tgt := 110) dX8_sign_1 (by rw [hc59]; decide) (by rw [hc59]; decide) (by rw [hc59]; rfl) (by decide) ?_
    refine AW.bipush (v := (-20 : Int32)) dX8_sign_110 (by decide) ?_
    obtain rfl := Option.some.inj hf
    exact AW.iret (st := []) dX8_sign_112 rfl hK
  have hf := (if_neg hc59).symm.trans hf
  by_cases hc60 : p1 = (60 : Int32)
  · have hf := (if_pos hc60).symm.trans hf
    refine AW.swIn (tgt := 122) dX8_sign_1 (by rw [hc60]; decide) (by rw [hc60]; decide) (by rw [hc60]; rfl) (by decide) ?_
    refine AW.bipush (v := (-11 : Int32)) dX8_sign_122 (by decide) ?_
    obtain rfl := Option.some.inj hf
    exact AW.iret (st := []) dX8_sign_124 rfl hK
  have hf := (if_neg hc60).symm.trans hf
  by_cases hc61 : p1 = (61 : Int32)
  · have hf := (if_pos hc61).symm.trans hf
    refine AW.swIn (tgt := 125) dX8_sign_1 (by rw [hc61]; decide) (by rw [hc61]; decide) (by rw [hc61]; rfl) (by decide) ?_
    refine AW.bipush (v := (-12 : Int32)) dX8_sign_125 (by decide) ?_
    obtain rfl := Option.some.inj hf
    exact AW.iret (st := []) dX8_sign_127 rfl hK
  have hf := (if_neg hc61).symm.trans hf
  have KD : AW G mX8_sign d 0 0 K 128 [some (.int p1)] [] (I, J, ρ) := by
    refine AW.bipush (v := (-22 : Int32)) dX8_sign_128 (by decide) ?_
    obtain rfl := Option.some.inj hf
    exact AW.iret (st := []) dX8_sign_130 rfl hK
  by_cases hc44 : p1 = (44 : Int32)
  · exact AW.swIn (tgt := 128) dX8_sign_1 (by rw [hc44]; decide) (by rw [hc44]; decide) (by rw [hc44]; rfl) (by decide) KD
  by_cases hc46 : p1 = (46 : Int32)
  · exact AW.swIn (tgt := 128) dX8_sign_1 (by rw [hc46]; decide) (by rw [hc46]; decide) (by rw [hc46]; rfl) (by decide) KD
  by_cases hc47 : p1 = (47 : Int32)
  · exact AW.swIn (tgt := 128) dX8_sign_1 (by rw [hc47]; decide) (by rw [hc47]; decide) (by rw [hc47]; rfl) (by decide) KD
  by_cases hc48 : p1 = (48 : Int32)
  · exact AW.swIn (tgt := 128) dX8_sign_1 (by rw [hc48]; decide) (by rw [hc48]; decide) (by rw [hc48]; rfl) (by decide) KD
  by_cases hc49 : p1 = (49 : Int32)
  · exact AW.swIn (tgt := 128) dX8_sign_1 (by rw [hc49]; decide) (by rw [hc49]; decide) (by rw [hc49]; rfl) (by decide) KD
  by_cases hc50 : p1 = (50 : Int32)
  · exact AW.swIn (tgt := 128) dX8_sign_1 (by rw [hc50]; decide) (by rw [hc50]; decide) (by rw [hc50]; rfl) (by decide) KD
  by_cases hc51 : p1 = (51 : Int32)
  · exact AW.swIn (tgt := 128) dX8_sign_1 (by rw [hc51]; decide) (by rw [hc51]; decide) (by rw [hc51]; rfl) (by decide) KD
  by_cases hc52 : p1 = (52 : Int32)
  · exact AW.swIn (tgt := 128) dX8_sign_1 (by rw [hc52]; decide) (by rw [hc52]; decide) (by rw [hc52]; rfl) (by decide) KD
  by_cases hc53 : p1 = (53 : Int32)
  · exact AW.swIn (tgt := 128) dX8_sign_1 (by rw [hc53]; decide) (by rw [hc53]; decide) (by rw [hc53]; rfl) (by decide) KD
  by_cases hc54 : p1 = (54 : Int32)
  · exact AW.swIn (tgt := 128) dX8_sign_1 (by rw [hc54]; decide) (by rw [hc54]; decide) (by rw [hc54]; rfl) (by decide) KD
  by_cases hc55 : p1 = (55 : Int32)
  · exact AW.swIn (tgt := 128) dX8_sign_1 (by rw [hc55]; decide) (by rw [hc55]; decide) (by rw [hc55]; rfl) (by decide) KD
  by_cases hc56 : p1 = (56 : Int32)
  · exact AW.swIn (tgt := 128) dX8_sign_1 (by rw [hc56]; decide) (by rw [hc56]; decide) (by rw [hc56]; rfl) (by decide) KD
  by_cases hc57 : p1 = (57 : Int32)
  · exact AW.swIn (tgt := 128) dX8_sign_1 (by rw [hc57]; decide) (by rw [hc57]; decide) (by rw [hc57]; rfl) (by decide) KD
  by_cases hc58 : p1 = (58 : Int32)
  · exact AW.swIn (tgt := 128) dX8_sign_1 (by rw [hc58]; decide) (by rw [hc58]; decide) (by rw [hc58]; rfl) (by decide) KD
  have hc40 : ¬ (p1).toInt = 40 := fun q => hc40 (Int32.toInt_inj.mp q)
  have hc41 : ¬ (p1).toInt = 41 := fun q => hc41 (Int32.toInt_inj.mp q)
  have hc42 : ¬ (p1).toInt = 42 := fun q => hc42 (Int32.toInt_inj.mp q)
  have hc43 : ¬ (p1).toInt = 43 := fun q => hc43 (Int32.toInt_inj.mp q)
  have hc44 : ¬ (p1).toInt = 44 := fun q => hc44 (Int32.toInt_inj.mp q)
  have hc45 : ¬ (p1).toInt = 45 := fun q => hc45 (Int32.toInt_inj.mp q)
  have hc46 : ¬ (p1).toInt = 46 := fun q => hc46 (Int32.toInt_inj.mp q)
  have hc47 : ¬ (p1).toInt = 47 := fun q => hc47 (Int32.toInt_inj.mp q)
  have hc48 : ¬ (p1).toInt = 48 := fun q => hc48 (Int32.toInt_inj.mp q)
  have hc49 : ¬ (p1).toInt = 49 := fun q => hc49 (Int32.toInt_inj.mp q)
  have hc50 : ¬ (p1).toInt = 50 := fun q => hc50 (Int32.toInt_inj.mp q)
  have hc51 : ¬ (p1).toInt = 51 := fun q => hc51 (Int32.toInt_inj.mp q)
  have hc52 : ¬ (p1).toInt = 52 := fun q => hc52 (Int32.toInt_inj.mp q)
  have hc53 : ¬ (p1).toInt = 53 := fun q => hc53 (Int32.toInt_inj.mp q)
  have hc54 : ¬ (p1).toInt = 54 := fun q => hc54 (Int32.toInt_inj.mp q)
  have hc55 : ¬ (p1).toInt = 55 := fun q => hc55 (Int32.toInt_inj.mp q)
  have hc56 : ¬ (p1).toInt = 56 := fun q => hc56 (Int32.toInt_inj.mp q)
  have hc57 : ¬ (p1).toInt = 57 := fun q => hc57 (Int32.toInt_inj.mp q)
  have hc58 : ¬ (p1).toInt = 58 := fun q => hc58 (Int32.toInt_inj.mp q)
  have hc59 : ¬ (p1).toInt = 59 := fun q => hc59 (Int32.toInt_inj.mp q)
  have hc60 : ¬ (p1).toInt = 60 := fun q => hc60 (Int32.toInt_inj.mp q)
  have hc61 : ¬ (p1).toInt = 61 := fun q => hc61 (Int32.toInt_inj.mp q)
  exact AW.swOut dX8_sign_1 (by omega) (by decide) KD
