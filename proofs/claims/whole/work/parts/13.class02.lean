/-! ===== methods 13.class 2 ===== -/
def f_X2_need (N : Nat) (ρ : Rh) (I : Nat → Nat → Int32) (J : Nat → Nat → Int64) (p0 : Nat) : Option ((Nat → Nat → Int32) × Int32) := (if ρ.2.1 p0 = (0, 2) then (Option.bind (f_X2_value N ρ I J p0 (0 : Int32) (I p0 2)) fun v2 => some (v2.1, v2.2)) else none)
theorem c_X2_need {G : Gd} {d N : Nat} {K : Ah → Option Value → Prop} {ρ : Rh} {I : Nat → Nat → Int32} {J : Nat → Nat → Int64} {p0 : Nat} {o : (Nat → Nat → Int32) × Int32} (hs : Sh ρ) (hf : f_X2_need N ρ I J p0 = some o) (hK : K (o.1, J, ρ) (some (.int o.2))) : AM G (d + 2) 0 0 mX2_need [.ref p0, .ref 79, .ref 80] (I, J, ρ) K := by
  unfold f_X2_need at hf
  refine AM.intro okX2_need.2.2.2.1 (Nat.le_of_ble_eq_true rfl) [some (.ref p0), some (.ref 79), some (.ref 80)] rfl ?_
  refine AW.aload_n dX2_need_0 rfl ?_
  refine AW.iconst (v := (0 : Int32)) dX2_need_1 (by decide) ?_
  refine AW.aload_n dX2_need_2 rfl ?_
  obtain ⟨h1, hf⟩ := gd_split hf
  refine TW.getI (x := (I p0 2)) fX2_19_2 h1 rfl dX2_need_3 ?_
  refine AW.aload_n dX2_need_6 rfl ?_
  refine AW.aload_n dX2_need_7 rfl ?_
  obtain ⟨v2, gv2, hf⟩ := ob_split hf
  refine TW.invv (as := [.int (0 : Int32), .int (I p0 2), .ref 79, .ref 80]) (rest := []) viX2_22_2 h1 dX2_need_8 rfl rfl (Nat.le_of_ble_eq_true rfl) (c_X2_value hs gv2 ?_)
  show AW G mX2_need (d + 2) 0 0 K 11 [some (.ref p0), some (.ref 79), some (.ref 80)] [.int v2.2] (v2.1, J, ρ)
  obtain rfl := Option.some.inj hf
  exact AW.iret (st := []) dX2_need_11 rfl hK
def f_X2_row (N : Nat) (ρ : Rh) (I : Nat → Nat → Int32) (J : Nat → Nat → Int64) (p0 : Nat) : Option ((Nat → Nat → Int32) × Int32) := (if ρ.2.1 p0 = (0, 2) then (Option.bind (ρ.1 p0 1) fun a2 => (if ρ.2.1 a2 = (1, (ρ.2.1 a2).2) then (Option.bind (f_X2_value N ρ I J p0 (I p0 2) (Int32.ofNat (ρ.2.1 a2).2)) fun v4 => some (v4.1, v4.2)) else none)) else none)
theorem c_X2_row {G : Gd} {d N : Nat} {K : Ah → Option Value → Prop} {ρ : Rh} {I : Nat → Nat → Int32} {J : Nat → Nat → Int64} {p0 : Nat} {o : (Nat → Nat → Int32) × Int32} (hs : Sh ρ) (hf : f_X2_row N ρ I J p0 = some o) (hK : K (o.1, J, ρ) (some (.int o.2))) : AM G (d + 2) 0 0 mX2_row [.ref p0, .ref 79, .ref 80] (I, J, ρ) K := by
  unfold f_X2_row at hf
  refine AM.intro okX2_row.2.2.2.1 (Nat.le_of_ble_eq_true rfl) [some (.ref p0), some (.ref 79), some (.ref 80)] rfl ?_
  refine AW.aload_n dX2_row_0 rfl ?_
  refine AW.aload_n dX2_row_1 rfl ?_
  obtain ⟨h1, hf⟩ := gd_split hf
  refine TW.getI (x := (I p0 2)) fX2_19_2 h1 rfl dX2_row_2 ?_
  refine AW.aload_n dX2_row_5 rfl ?_
  obtain ⟨a2, ga2, hf⟩ := ob_split hf
  refine TW.getR (v := .ref a2) fX2_15_2 h1 (rf_some ga2) dX2_row_6 ?_
  obtain ⟨h3, hf⟩ := gd_split hf
  refine TW.alen h3 (by decide) (by decide) rfl dX2_row_9 ?_
  refine AW.aload_n dX2_row_10 rfl ?_
  refine AW.aload_n dX2_row_11 rfl ?_
  obtain ⟨v4, gv4, hf⟩ := ob_split hf
  refine TW.invv (as := [.int (I p0 2), .int (Int32.ofNat (ρ.2.1 a2).2), .ref 79, .ref 80]) (rest := []) viX2_22_2 h1 dX2_row_12 rfl rfl (Nat.le_of_ble_eq_true rfl) (c_X2_value hs gv4 ?_)
  show AW G mX2_row (d + 2) 0 0 K 15 [some (.ref p0), some (.ref 79), some (.ref 80)] [.int v4.2] (v4.1, J, ρ)
  obtain rfl := Option.some.inj hf
  exact AW.iret (st := []) dX2_row_15 rfl hK
def f_X4_share_4 (N : Nat) (ρ : Rh) (I : Nat → Nat → Int32) (J : Nat → Nat → Int64) (p0 : Nat) (p2 : Int32) : Option (Int32) := (if ¬ ((I 48 13) < 0 ∨ 13 ≤ tn (I 48 13)) then (if ¬ (p2 < 0 ∨ 8 ≤ tn p2) then (if ρ.2.1 p0 = (0, 4) then (((if ((I p0 1) ≤ (I (50 + (tn (I 48 13))) (tn p2))) then some (-1 : Int32) else some (2 : Int32)) : Option (Int32)).bind fun j5 => (Option.bind (f_X6_share N ρ I J p0 p2) fun v6 => some (if (0 : Int32) < (v6 + j5) then (v6 + j5) else (0 : Int32)))) else none) else none) else none)
theorem c_X4_share_4 {G : Gd} {d N : Nat} {K : Ah → Option Value → Prop} {ρ : Rh} {I : Nat → Nat → Int32} {J : Nat → Nat → Int64} {p0 : Nat} {p2 : Int32} {o : Int32} (hs : Sh ρ) (hf : f_X4_share_4 N ρ I J p0 p2 = some o) (hK : K (I, J, ρ) (some (.int o))) : AM G (d + 1) 0 0 mX4_share [.ref p0, .ref 48, .int p2] (I, J, ρ) K := by
  unfold f_X4_share_4 at hf
  refine AM.intro okX4_share.2.2.2.1 (Nat.le_of_ble_eq_true rfl) [some (.ref p0), some (.ref 48), some (.int p2), none] rfl ?_
  refine AW.aload_n dX4_share_0 rfl ?_
  refine TW.getR fX4_7_10 hs.k48 (rf_some hs.r48_1) dX4_share_1 ?_
  refine AW.aload_n dX4_share_4 rfl ?_
  refine TW.getI (x := (I 48 13)) fX4_13_10 hs.k48 rfl dX4_share_5 ?_
  obtain ⟨h1, hf⟩ := gd_split hf
  have hl2 : (tn (I 48 13)) < 13 := vp_lt h1
  refine TW.aald (t := 3) hs.k49 (by decide) h1 (rf_some (hs.e49 hl2)) dX4_share_8 ?_
  refine AW.iload_n dX4_share_9 rfl ?_
  obtain ⟨h3, hf⟩ := gd_split hf
  refine TW.iald (x := (I (50 + (tn (I 48 13))) (tn p2))) (hs.ek49 hl2) h3 rfl dX4_share_10 ?_
  refine AW.aload_n dX4_share_11 rfl ?_
  obtain ⟨h4, hf⟩ := gd_split hf
  refine TW.getI (x := (I p0 1)) fX4_17_4 h4 rfl dX4_share_12 ?_
  obtain ⟨j5, gj5, hf⟩ := ob_split hf
  have Kj5 : AW G mX4_share (d + 1) 0 0 K 23 [some (.ref p0), some (.ref 48), some (.int p2), none] [.int j5] (I, J, ρ) := by
    refine AW.istore_n (ls' := [some (.ref p0), some (.ref 48), some (.int p2), some (.int j5)]) dX4_share_23 (Nat.le_of_ble_eq_true rfl) rfl ?_
    refine AW.iconst (v := (0 : Int32)) dX4_share_24 (by decide) ?_
    refine AW.aload_n dX4_share_25 rfl ?_
    refine AW.aload_n dX4_share_26 rfl ?_
    refine AW.iload_n dX4_share_27 rfl ?_
    obtain ⟨v6, gv6, hf⟩ := ob_split hf
    refine TW.invsu (as := [.ref 48, .int p2]) (rest := [.int (0 : Int32)]) suX4_22 h4 rfl dX4_share_28 rfl rfl (Nat.le_of_ble_eq_true rfl) (c_X6_share hs gv6 ?_)
    show AW G mX4_share (d + 1) 0 0 K 31 [some (.ref p0), some (.ref 48), some (.int p2), some (.int j5)] [.int v6, .int (0 : Int32)] (I, J, ρ)
    refine AW.iload_n dX4_share_31 rfl ?_
    refine AW.iadd dX4_share_32 ?_
    refine AW.mmax mtX4_26 dX4_share_33 (Nat.le_of_ble_eq_true rfl) ?_
    obtain rfl := Option.some.inj hf
    exact AW.iret (st := []) dX4_share_36 rfl hK
  clear hf; have hf := gj5; clear gj5
  refine AW.icmp_ge (tgt := 22) dX4_share_15 (by decide) (fun hc => ?_) (fun hc => ?_)
  · have hf := (if_pos hc).symm.trans hf
    refine AW.iconst (v := (-1 : Int32)) dX4_share_22 (by decide) ?_
    obtain rfl := Option.some.inj hf
    exact AW.weak _ (by exact (And.intro rfl (And.intro rfl (And.intro rfl trivial)))) Kj5
  · have hf := (if_neg hc).symm.trans hf
    refine AW.iconst (v := (2 : Int32)) dX4_share_18 (by decide) ?_
    refine AW.goto (tgt := 23) dX4_share_19 (by decide) ?_
    obtain rfl := Option.some.inj hf
    exact AW.weak _ (by exact (And.intro rfl (And.intro rfl (And.intro rfl trivial)))) Kj5
def f_X4_share_3 (N : Nat) (ρ : Rh) (I : Nat → Nat → Int32) (J : Nat → Nat → Int64) (p0 : Nat) (p2 : Int32) : Option (Int32) := (if ¬ ((I 48 13) < 0 ∨ 13 ≤ tn (I 48 13)) then (if ¬ (p2 < 0 ∨ 8 ≤ tn p2) then (if ρ.2.1 p0 = (0, 3) then (((if ((I p0 1) ≤ (I (50 + (tn (I 48 13))) (tn p2))) then some (-1 : Int32) else some (2 : Int32)) : Option (Int32)).bind fun j5 => (Option.bind (f_X6_share N ρ I J p0 p2) fun v6 => some (if (0 : Int32) < (v6 + j5) then (v6 + j5) else (0 : Int32)))) else none) else none) else none)
theorem c_X4_share_3 {G : Gd} {d N : Nat} {K : Ah → Option Value → Prop} {ρ : Rh} {I : Nat → Nat → Int32} {J : Nat → Nat → Int64} {p0 : Nat} {p2 : Int32} {o : Int32} (hs : Sh ρ) (hf : f_X4_share_3 N ρ I J p0 p2 = some o) (hK : K (I, J, ρ) (some (.int o))) : AM G (d + 1) 0 0 mX4_share [.ref p0, .ref 48, .int p2] (I, J, ρ) K := by
  unfold f_X4_share_3 at hf
  refine AM.intro okX4_share.2.2.2.1 (Nat.le_of_ble_eq_true rfl) [some (.ref p0), some (.ref 48), some (.int p2), none] rfl ?_
  refine AW.aload_n dX4_share_0 rfl ?_
  refine TW.getR fX4_7_10 hs.k48 (rf_some hs.r48_1) dX4_share_1 ?_
  refine AW.aload_n dX4_share_4 rfl ?_
  refine TW.getI (x := (I 48 13)) fX4_13_10 hs.k48 rfl dX4_share_5 ?_
  obtain ⟨h1, hf⟩ := gd_split hf
  have hl2 : (tn (I 48 13)) < 13 := vp_lt h1
  refine TW.aald (t := 3) hs.k49 (by decide) h1 (rf_some (hs.e49 hl2)) dX4_share_8 ?_
  refine AW.iload_n dX4_share_9 rfl ?_
  obtain ⟨h3, hf⟩ := gd_split hf
  refine TW.iald (x := (I (50 + (tn (I 48 13))) (tn p2))) (hs.ek49 hl2) h3 rfl dX4_share_10 ?_
  refine AW.aload_n dX4_share_11 rfl ?_
  obtain ⟨h4, hf⟩ := gd_split hf
  refine TW.getI (x := (I p0 1)) fX4_17_3 h4 rfl dX4_share_12 ?_
  obtain ⟨j5, gj5, hf⟩ := ob_split hf
  have Kj5 : AW G mX4_share (d + 1) 0 0 K 23 [some (.ref p0), some (.ref 48), some (.int p2), none] [.int j5] (I, J, ρ) := by
    refine AW.istore_n (ls' := [some (.ref p0), some (.ref 48), some (.int p2), some (.int j5)]) dX4_share_23 (Nat.le_of_ble_eq_true rfl) rfl ?_
    refine AW.iconst (v := (0 : Int32)) dX4_share_24 (by decide) ?_
    refine AW.aload_n dX4_share_25 rfl ?_
    refine AW.aload_n dX4_share_26 rfl ?_
    refine AW.iload_n dX4_share_27 rfl ?_
    obtain ⟨v6, gv6, hf⟩ := ob_split hf
    refine TW.invsu (as := [.ref 48, .int p2]) (rest := [.int (0 : Int32)]) suX4_22 h4 rfl dX4_share_28 rfl rfl (Nat.le_of_ble_eq_true rfl) (c_X6_share hs gv6 ?_)
    show AW G mX4_share (d + 1) 0 0 K 31 [some (.ref p0), some (.ref 48), some (.int p2), some (.int j5)] [.int v6, .int (0 : Int32)] (I, J, ρ)
    refine AW.iload_n dX4_share_31 rfl ?_
    refine AW.iadd dX4_share_32 ?_
    refine AW.mmax mtX4_26 dX4_share_33 (Nat.le_of_ble_eq_true rfl) ?_
    obtain rfl := Option.some.inj hf
    exact AW.iret (st := []) dX4_share_36 rfl hK
  clear hf; have hf := gj5; clear gj5
  refine AW.icmp_ge (tgt := 22) dX4_share_15 (by decide) (fun hc => ?_) (fun hc => ?_)
  · have hf := (if_pos hc).symm.trans hf
    refine AW.iconst (v := (-1 : Int32)) dX4_share_22 (by decide) ?_
    obtain rfl := Option.some.inj hf
    exact AW.weak _ (by exact (And.intro rfl (And.intro rfl (And.intro rfl trivial)))) Kj5
  · have hf := (if_neg hc).symm.trans hf
    refine AW.iconst (v := (2 : Int32)) dX4_share_18 (by decide) ?_
    refine AW.goto (tgt := 23) dX4_share_19 (by decide) ?_
    obtain rfl := Option.some.inj hf
    exact AW.weak _ (by exact (And.intro rfl (And.intro rfl (And.intro rfl trivial)))) Kj5
def f_X3_share (N : Nat) (ρ : Rh) (I : Nat → Nat → Int32) (J : Nat → Nat → Int64) (p0 : Nat) (p2 : Int32) : Option (Int32) := (if ρ.2.1 p0 = (0, 3) then (Option.bind (f_X4_share_3 N ρ I J p0 p2) fun v2 => (if ((I 48 14) ≤ (0 : Int32)) then some v2 else (if ¬ (I 48 14) = 0 then (if ((I 48 15) = ((((7 : Int32) * (I 48 13)) + (I p0 1)) - (((7 : Int32) * (I 48 13)) + (I p0 1)) / (I 48 14) * (I 48 14))) then some ((2 : Int32) * v2) else some v2) else none))) else none)
theorem c_X3_share {G : Gd} {d N : Nat} {K : Ah → Option Value → Prop} {ρ : Rh} {I : Nat → Nat → Int32} {J : Nat → Nat → Int64} {p0 : Nat} {p2 : Int32} {o : Int32} (hs : Sh ρ) (hf : f_X3_share N ρ I J p0 p2 = some o) (hK : K (I, J, ρ) (some (.int o))) : AM G (d + 2) 0 0 mX3_share [.ref p0, .ref 48, .int p2] (I, J, ρ) K := by
  unfold f_X3_share at hf
  refine AM.intro okX3_share.2.2.2.1 (Nat.le_of_ble_eq_true rfl) [some (.ref p0), some (.ref 48), some (.int p2), none] rfl ?_
  refine AW.aload_n dX3_share_0 rfl ?_
  refine AW.aload_n dX3_share_1 rfl ?_
  refine AW.iload_n dX3_share_2 rfl ?_
  obtain ⟨h1, hf⟩ := gd_split hf
  obtain ⟨v2, gv2, hf⟩ := ob_split hf
  refine TW.invsu (as := [.ref 48, .int p2]) (rest := []) suX3_7 h1 rfl dX3_share_3 rfl rfl (Nat.le_of_ble_eq_true rfl) (c_X4_share_3 hs gv2 ?_)
  show AW G mX3_share (d + 2) 0 0 K 6 [some (.ref p0), some (.ref 48), some (.int p2), none] [.int v2] (I, J, ρ)
  refine AW.istore_n (ls' := [some (.ref p0), some (.ref 48), some (.int p2), some (.int v2)]) dX3_share_6 (Nat.le_of_ble_eq_true rfl) rfl ?_
  refine AW.aload_n dX3_share_7 rfl ?_
  refine TW.getI (x := (I 48 14)) fX3_11_10 hs.k48 rfl dX3_share_8 ?_
  refine AW.if_le (tgt := 38) dX3_share_11 (by decide) (fun hc => ?_) (fun hc => ?_)
  · have hf := (if_pos hc).symm.trans hf
    refine AW.iload_n dX3_share_38 rfl ?_
    obtain rfl := Option.some.inj hf
    exact AW.iret (st := []) dX3_share_39 rfl hK
  · have hf := (if_neg hc).symm.trans hf
    refine AW.aload_n dX3_share_14 rfl ?_
    refine TW.getI (x := (I 48 15)) fX3_17_10 hs.k48 rfl dX3_share_15 ?_
    refine AW.bipush (v := (7 : Int32)) dX3_share_18 (by decide) ?_
    refine AW.aload_n dX3_share_20 rfl ?_
    refine TW.getI (x := (I 48 13)) fX3_20_10 hs.k48 rfl dX3_share_21 ?_
    refine AW.imul dX3_share_24 ?_
    refine AW.aload_n dX3_share_25 rfl ?_
    refine TW.getI (x := (I p0 1)) fX3_23_3 h1 rfl dX3_share_26 ?_
    refine AW.iadd dX3_share_29 ?_
    refine AW.aload_n dX3_share_30 rfl ?_
    refine TW.getI (x := (I 48 14)) fX3_11_10 hs.k48 rfl dX3_share_31 ?_
    obtain ⟨h3, hf⟩ := gd_split hf
    refine AW.irem (hne := h3) dX3_share_34 ?_
    refine AW.icmp_eq (tgt := 40) dX3_share_35 (by decide) (fun hc => ?_) (fun hc => ?_)
    · have hf := (if_pos hc).symm.trans hf
      refine AW.iconst (v := (2 : Int32)) dX3_share_40 (by decide) ?_
      refine AW.iload_n dX3_share_41 rfl ?_
      refine AW.imul dX3_share_42 ?_
      obtain rfl := Option.some.inj hf
      exact AW.iret (st := []) dX3_share_43 rfl hK
    · have hf := (if_neg hc).symm.trans hf
      refine AW.iload_n dX3_share_38 rfl ?_
      obtain rfl := Option.some.inj hf
      exact AW.iret (st := []) dX3_share_39 rfl hK
def f_X6_toldFor (N : Nat) (ρ : Rh) (I : Nat → Nat → Int32) (J : Nat → Nat → Int64) (p0 : Nat) (p1 : Int32) : Option (Int32) := some (0 : Int32)
theorem c_X6_toldFor {G : Gd} {d N : Nat} {K : Ah → Option Value → Prop} {ρ : Rh} {I : Nat → Nat → Int32} {J : Nat → Nat → Int64} {p0 : Nat} {p1 : Int32} {o : Int32} (hs : Sh ρ) (hf : f_X6_toldFor N ρ I J p0 p1 = some o) (hK : K (I, J, ρ) (some (.int o))) : AM G d 0 0 mX6_toldFor [.ref p0, .int p1] (I, J, ρ) K := by
  unfold f_X6_toldFor at hf
  refine AM.intro okX6_toldFor.2.2.2.1 (Nat.le_of_ble_eq_true rfl) [some (.ref p0), some (.int p1)] rfl ?_
  refine AW.iconst (v := (0 : Int32)) dX6_toldFor_0 (by decide) ?_
  obtain rfl := Option.some.inj hf
  exact AW.iret (st := []) dX6_toldFor_1 rfl hK
def f_X7_isMissing (N : Nat) (ρ : Rh) (I : Nat → Nat → Int32) (J : Nat → Nat → Int64) (p0 : Nat) : Option (Int32) := (if ρ.2.1 p0 = (0, 7) then (if ((0 : Int32) ≤ (I p0 0)) then some (0 : Int32) else some (1 : Int32)) else none)
theorem c_X7_isMissing {G : Gd} {d N : Nat} {K : Ah → Option Value → Prop} {ρ : Rh} {I : Nat → Nat → Int32} {J : Nat → Nat → Int64} {p0 : Nat} {o : Int32} (hs : Sh ρ) (hf : f_X7_isMissing N ρ I J p0 = some o) (hK : K (I, J, ρ) (some (.int o))) : AM G d 0 0 mX7_isMissing [.ref p0] (I, J, ρ) K := by
  unfold f_X7_isMissing at hf
  refine AM.intro okX7_isMissing.2.2.2.1 (Nat.le_of_ble_eq_true rfl) [some (.ref p0)] rfl ?_
  refine AW.aload_n dX7_isMissing_0 rfl ?_
  obtain ⟨h1, hf⟩ := gd_split hf
  refine TW.getI (x := (I p0 0)) fX7_9_7 h1 rfl dX7_isMissing_1 ?_
  refine AW.if_ge (tgt := 11) dX7_isMissing_4 (by decide) (fun hc => ?_) (fun hc => ?_)
  · have hf := (if_pos hc).symm.trans hf
    refine AW.iconst (v := (0 : Int32)) dX7_isMissing_11 (by decide) ?_
    obtain rfl := Option.some.inj hf
    exact AW.zret (st := []) dX7_isMissing_12 rfl (Or.inl rfl) hK
  · have hf := (if_neg hc).symm.trans hf
    refine AW.iconst (v := (1 : Int32)) dX7_isMissing_7 (by decide) ?_
    refine AW.goto (tgt := 12) dX7_isMissing_8 (by decide) ?_
    obtain rfl := Option.some.inj hf
    exact AW.zret (st := []) dX7_isMissing_12 rfl (Or.inr rfl) hK
def f_J7_fill_53178_5 (N : Nat) (J : Nat → Nat → Int64) (ρ : Rh) (a3 : Nat) (p2 : Int32) (c5 : Int32) : Nat → (Nat → Nat → Int32) → Int32 → Option ((Nat → Nat → Int32))
  | 0, _, _ => none
  | n + 1, I2, i4 => (if (c5 ≤ i4) then some I2 else (if ρ.2.1 a3 = (1, (ρ.2.1 a3).2) then (if ¬ (i4 < 0 ∨ (ρ.2.1 a3).2 ≤ tn i4) then f_J7_fill_53178_5 N J ρ a3 p2 c5 n (u2 I2 a3 (tn i4) p2) (i4 + (1 : Int32)) else none) else none))
theorem l_J7_fill_53178_5 {G : Gd} {d N : Nat} {K : Ah → Option Value → Prop} {J : Nat → Nat → Int64} {ρ : Rh} {a3 : Nat} {p2 : Int32} {c5 : Int32} (hs : Sh ρ) {o : (Nat → Nat → Int32)} : ∀ (n : Nat) (I2 : Nat → Nat → Int32) (i4 : Int32), f_J7_fill_53178_5 N J ρ a3 p2 c5 n I2 i4 = some o → AW G mJ7_fill_53178 d 0 0 K 20 [none, none, none, none] [] (o, J, ρ) → AW G mJ7_fill_53178 d 0 0 K 5 [some (.ref a3), some (.int p2), some (.int i4), some (.int c5)] [] (I2, J, ρ) := by
  intro n
  induction n with
  | zero => intro I2 i4 hf hE; rw [f_J7_fill_53178_5.eq_1] at hf; cases hf
  | succ n ih =>
    intro I2 i4 hf hE
    rw [f_J7_fill_53178_5.eq_2] at hf
    refine AW.iload_n dJ7_fill_53178_5 rfl ?_
    refine AW.iload_n dJ7_fill_53178_6 rfl ?_
    refine AW.icmp_ge (tgt := 20) dJ7_fill_53178_7 (by decide) (fun hc => ?_) (fun hc => ?_)
    · have hf := (if_pos hc).symm.trans hf
      obtain rfl := Option.some.inj hf
      exact AW.weak _ (by exact trivial) hE
    · have hf := (if_neg hc).symm.trans hf
      refine AW.aload_n dJ7_fill_53178_10 rfl ?_
      refine AW.iload_n dJ7_fill_53178_11 rfl ?_
      refine AW.iload_n dJ7_fill_53178_12 rfl ?_
      obtain ⟨h6, hf⟩ := gd_split hf
      obtain ⟨h7, hf⟩ := gd_split hf
      refine TW.iast h6 h7 dJ7_fill_53178_13 ?_
      show AW G mJ7_fill_53178 d 0 0 K 14 [some (.ref a3), some (.int p2), some (.int i4), some (.int c5)] [] ((u2 I2 a3 (tn i4) p2), J, ρ)
      refine AW.iinc (v := (i4 + (1 : Int32))) (ls' := [some (.ref a3), some (.int p2), some (.int (i4 + (1 : Int32))), some (.int c5)]) dJ7_fill_53178_14 rfl rfl (Nat.le_of_ble_eq_true rfl) rfl ?_
      refine AW.goto (tgt := 5) dJ7_fill_53178_17 (by decide) ?_
      exact AW.weak _ (by exact (And.intro rfl (And.intro rfl (And.intro rfl (And.intro rfl trivial))))) (ih (u2 I2 a3 (tn i4) p2) (i4 + (1 : Int32)) hf hE)
def f_J7_fill_53178 (N : Nat) (ρ : Rh) (I : Nat → Nat → Int32) (J : Nat → Nat → Int64) (p1 : Nat) (p2 : Int32) : Option ((Nat → Nat → Int32)) := (if ρ.2.1 p1 = (1, (ρ.2.1 p1).2) then ((f_J7_fill_53178_5 N J ρ p1 p2 (Int32.ofNat (ρ.2.1 p1).2) N I (0 : Int32)).bind fun j8 => some j8) else none)
theorem c_J7_fill_53178 {G : Gd} {d N : Nat} {K : Ah → Option Value → Prop} {ρ : Rh} {I : Nat → Nat → Int32} {J : Nat → Nat → Int64} {p1 : Nat} {p2 : Int32} {o : (Nat → Nat → Int32)} (hs : Sh ρ) (hf : f_J7_fill_53178 N ρ I J p1 p2 = some o) (hK : K (o, J, ρ) none) : AM G d 0 0 mJ7_fill_53178 [.ref p1, .int p2] (I, J, ρ) K := by
  unfold f_J7_fill_53178 at hf
  refine AM.intro okJ7_fill_53178.2.2.2.1 (Nat.le_of_ble_eq_true rfl) [some (.ref p1), some (.int p2), none, none] rfl ?_
  refine AW.iconst (v := (0 : Int32)) dJ7_fill_53178_0 (by decide) ?_
  refine AW.istore_n (ls' := [some (.ref p1), some (.int p2), some (.int (0 : Int32)), none]) dJ7_fill_53178_1 (Nat.le_of_ble_eq_true rfl) rfl ?_
  refine AW.aload_n dJ7_fill_53178_2 rfl ?_
  obtain ⟨h1, hf⟩ := gd_split hf
  refine TW.alen h1 (by decide) (by decide) rfl dJ7_fill_53178_3 ?_
  refine AW.istore_n (ls' := [some (.ref p1), some (.int p2), some (.int (0 : Int32)), some (.int (Int32.ofNat (ρ.2.1 p1).2))]) dJ7_fill_53178_4 (Nat.le_of_ble_eq_true rfl) rfl ?_
  obtain ⟨j8, gj8, hf⟩ := ob_split hf
  refine AW.weak _ (by exact (And.intro rfl (And.intro rfl (And.intro rfl (And.intro rfl trivial))))) (l_J7_fill_53178_5 hs N I (0 : Int32) gj8 ?_)
  show AW G mJ7_fill_53178 d 0 0 K 20 [none, none, none, none] [] (j8, J, ρ)
  obtain rfl := Option.some.inj hf
  exact AW.vret (st := []) dJ7_fill_53178_20 rfl hK
def f_X7_become (N : Nat) (ρ : Rh) (I : Nat → Nat → Int32) (J : Nat → Nat → Int64) (p0 : Nat) (p1 : Int32) (p2 : Int32) : Option ((Nat → Nat → Int32)) := (if ρ.2.1 p0 = (0, 7) then (Option.bind (ρ.1 p0 2) fun a2 => (Option.bind (f_J7_fill_53178 N ρ (u2 (u2 I p0 0 p1) p0 1 p2) J a2 (0 : Int32)) fun v3 => some v3)) else none)
theorem c_X7_become {G : Gd} {d N : Nat} {K : Ah → Option Value → Prop} {ρ : Rh} {I : Nat → Nat → Int32} {J : Nat → Nat → Int64} {p0 : Nat} {p1 : Int32} {p2 : Int32} {o : (Nat → Nat → Int32)} (hs : Sh ρ) (hf : f_X7_become N ρ I J p0 p1 p2 = some o) (hK : K (o, J, ρ) none) : AM G (d + 1) 0 0 mX7_become [.ref p0, .int p1, .int p2] (I, J, ρ) K := by
  unfold f_X7_become at hf
  refine AM.intro okX7_become.2.2.2.1 (Nat.le_of_ble_eq_true rfl) [some (.ref p0), some (.int p1), some (.int p2)] rfl ?_
  refine AW.aload_n dX7_become_0 rfl ?_
  refine AW.iload_n dX7_become_1 rfl ?_
  obtain ⟨h1, hf⟩ := gd_split hf
  refine TW.putI fX7_9_7 h1 (Or.inl rfl) dX7_become_2 ?_
  show AW G mX7_become (d + 1) 0 0 K 5 [some (.ref p0), some (.int p1), some (.int p2)] [] ((u2 I p0 0 p1), J, ρ)
  refine AW.aload_n dX7_become_5 rfl ?_
  refine AW.iload_n dX7_become_6 rfl ?_
  refine TW.putI fX7_19_7 h1 (Or.inl rfl) dX7_become_7 ?_
  show AW G mX7_become (d + 1) 0 0 K 10 [some (.ref p0), some (.int p1), some (.int p2)] [] ((u2 (u2 I p0 0 p1) p0 1 p2), J, ρ)
  refine AW.aload_n dX7_become_10 rfl ?_
  obtain ⟨a2, ga2, hf⟩ := ob_split hf
  refine TW.getR (v := .ref a2) fX7_15_7 h1 (rf_some ga2) dX7_become_11 ?_
  refine AW.iconst (v := (0 : Int32)) dX7_become_14 (by decide) ?_
  obtain ⟨v3, gv3, hf⟩ := ob_split hf
  refine TW.invs (as := [.ref a2, .int (0 : Int32)]) (rest := []) stX7_22 dX7_become_15 rfl rfl (Nat.le_of_ble_eq_true rfl) (c_J7_fill_53178 hs gv3 ?_)
  show AW G mX7_become (d + 1) 0 0 K 18 [some (.ref p0), some (.int p1), some (.int p2)] [] (v3, J, ρ)
  obtain rfl := Option.some.inj hf
  exact AW.vret (st := []) dX7_become_18 rfl hK
def f_X7_hasRoom (N : Nat) (ρ : Rh) (I : Nat → Nat → Int32) (J : Nat → Nat → Int64) (p0 : Nat) (p1 : Int32) (p2 : Int32) : Option (Int32) := (if (p2 < (0 : Int32)) then some (0 : Int32) else (if ρ.2.1 p0 = (0, 7) then (if ((I p0 1) < p2) then some (0 : Int32) else (if (p1 < (0 : Int32)) then some (0 : Int32) else (if (((I p0 1) - p2) < p1) then some (0 : Int32) else some (1 : Int32)))) else none))
theorem c_X7_hasRoom {G : Gd} {d N : Nat} {K : Ah → Option Value → Prop} {ρ : Rh} {I : Nat → Nat → Int32} {J : Nat → Nat → Int64} {p0 : Nat} {p1 : Int32} {p2 : Int32} {o : Int32} (hs : Sh ρ) (hf : f_X7_hasRoom N ρ I J p0 p1 p2 = some o) (hK : K (I, J, ρ) (some (.int o))) : AM G d 0 0 mX7_hasRoom [.ref p0, .int p1, .int p2] (I, J, ρ) K := by
  unfold f_X7_hasRoom at hf
  refine AM.intro okX7_hasRoom.2.2.2.1 (Nat.le_of_ble_eq_true rfl) [some (.ref p0), some (.int p1), some (.int p2)] rfl ?_
  refine AW.iload_n dX7_hasRoom_0 rfl ?_
  refine AW.if_lt (tgt := 30) dX7_hasRoom_1 (by decide) (fun hc => ?_) (fun hc => ?_)
  · have hf := (if_pos hc).symm.trans hf
    refine AW.iconst (v := (0 : Int32)) dX7_hasRoom_30 (by decide) ?_
    obtain rfl := Option.some.inj hf
    exact AW.zret (st := []) dX7_hasRoom_31 rfl (Or.inl rfl) hK
  · have hf := (if_neg hc).symm.trans hf
    refine AW.iload_n dX7_hasRoom_4 rfl ?_
    refine AW.aload_n dX7_hasRoom_5 rfl ?_
    obtain ⟨h1, hf⟩ := gd_split hf
    refine TW.getI (x := (I p0 1)) fX7_19_7 h1 rfl dX7_hasRoom_6 ?_
    refine AW.icmp_gt (tgt := 30) dX7_hasRoom_9 (by decide) (fun hc => ?_) (fun hc => ?_)
    · have hf := (if_pos hc).symm.trans hf
      refine AW.iconst (v := (0 : Int32)) dX7_hasRoom_30 (by decide) ?_
      obtain rfl := Option.some.inj hf
      exact AW.zret (st := []) dX7_hasRoom_31 rfl (Or.inl rfl) hK
    · have hf := (if_neg hc).symm.trans hf
      refine AW.iload_n dX7_hasRoom_12 rfl ?_
      refine AW.if_lt (tgt := 30) dX7_hasRoom_13 (by decide) (fun hc => ?_) (fun hc => ?_)
      · have hf := (if_pos hc).symm.trans hf
        refine AW.iconst (v := (0 : Int32)) dX7_hasRoom_30 (by decide) ?_
        obtain rfl := Option.some.inj hf
        exact AW.zret (st := []) dX7_hasRoom_31 rfl (Or.inl rfl) hK
      · have hf := (if_neg hc).symm.trans hf
        refine AW.iload_n dX7_hasRoom_16 rfl ?_
        refine AW.aload_n dX7_hasRoom_17 rfl ?_
        refine TW.getI (x := (I p0 1)) fX7_19_7 h1 rfl dX7_hasRoom_18 ?_
        refine AW.iload_n dX7_hasRoom_21 rfl ?_
        refine AW.isub dX7_hasRoom_22 ?_
        refine AW.icmp_gt (tgt := 30) dX7_hasRoom_23 (by decide) (fun hc => ?_) (fun hc => ?_)
        · have hf := (if_pos hc).symm.trans hf
          refine AW.iconst (v := (0 : Int32)) dX7_hasRoom_30 (by decide) ?_
          obtain rfl := Option.some.inj hf
          exact AW.zret (st := []) dX7_hasRoom_31 rfl (Or.inl rfl) hK
        · have hf := (if_neg hc).symm.trans hf
          refine AW.iconst (v := (1 : Int32)) dX7_hasRoom_26 (by decide) ?_
          refine AW.goto (tgt := 31) dX7_hasRoom_27 (by decide) ?_
          obtain rfl := Option.some.inj hf
          exact AW.zret (st := []) dX7_hasRoom_31 rfl (Or.inr rfl) hK
def f_X7_holdsOnly_2 (N : Nat) (I : Nat → Nat → Int32) (J : Nat → Nat → Int64) (ρ : Rh) (a1 : Nat) (p1 : Int32) (p2 : Int32) : Nat → Int32 → Option ((Int32) ⊕ (Unit))
  | 0, _ => none
  | n + 1, i2 => (if ρ.2.1 a1 = (0, 7) then (if ((I a1 1) ≤ i2) then some (Sum.inr ()) else (Option.bind (ρ.1 a1 2) fun a4 => (if ρ.2.1 a4 = (1, (ρ.2.1 a4).2) then (if ¬ (i2 < 0 ∨ (ρ.2.1 a4).2 ≤ tn i2) then (if ((I a4 (tn i2)) < p1) then some (Sum.inl (0 : Int32)) else (Option.bind (ρ.1 a1 2) fun a7 => (if ρ.2.1 a7 = (1, (ρ.2.1 a7).2) then (if ¬ (i2 < 0 ∨ (ρ.2.1 a7).2 ≤ tn i2) then (if ((I a7 (tn i2)) ≤ p2) then f_X7_holdsOnly_2 N I J ρ a1 p1 p2 n (i2 + (1 : Int32)) else some (Sum.inl (0 : Int32))) else none) else none))) else none) else none))) else none)
theorem l_X7_holdsOnly_2 {G : Gd} {d N : Nat} {K : Ah → Option Value → Prop} {I : Nat → Nat → Int32} {J : Nat → Nat → Int64} {ρ : Rh} {a1 : Nat} {p1 : Int32} {p2 : Int32} (hs : Sh ρ) {o : (Int32) ⊕ (Unit)} : ∀ (n : Nat) (i2 : Int32), f_X7_holdsOnly_2 N I J ρ a1 p1 p2 n i2 = some o → scase o (fun r => K (I, J, ρ) (some (.int r))) (fun o => AW G mX7_holdsOnly d 0 0 K 38 [none, none, none, none] [] (I, J, ρ)) → AW G mX7_holdsOnly d 0 0 K 2 [some (.ref a1), some (.int p1), some (.int p2), some (.int i2)] [] (I, J, ρ) := by
  intro n
  induction n with
  | zero => intro i2 hf hE; rw [f_X7_holdsOnly_2.eq_1] at hf; cases hf
  | succ n ih =>
    intro i2 hf hE
    rw [f_X7_holdsOnly_2.eq_2] at hf
    refine AW.iload_n dX7_holdsOnly_2 rfl ?_
    refine AW.aload_n dX7_holdsOnly_3 rfl ?_
    obtain ⟨h3, hf⟩ := gd_split hf
    refine TW.getI (x := (I a1 1)) fX7_19_7 h3 rfl dX7_holdsOnly_4 ?_
    refine AW.icmp_ge (tgt := 38) dX7_holdsOnly_7 (by decide) (fun hc => ?_) (fun hc => ?_)
    · have hf := (if_pos hc).symm.trans hf
      obtain rfl := Option.some.inj hf
      exact AW.weak _ (by exact trivial) hE
    · have hf := (if_neg hc).symm.trans hf
      refine AW.aload_n dX7_holdsOnly_10 rfl ?_
      obtain ⟨a4, ga4, hf⟩ := ob_split hf
      refine TW.getR (v := .ref a4) fX7_15_7 h3 (rf_some ga4) dX7_holdsOnly_11 ?_
      refine AW.iload_n dX7_holdsOnly_14 rfl ?_
      obtain ⟨h5, hf⟩ := gd_split hf
      obtain ⟨h6, hf⟩ := gd_split hf
      refine TW.iald (x := (I a4 (tn i2))) h5 h6 rfl dX7_holdsOnly_15 ?_
      refine AW.iload_n dX7_holdsOnly_16 rfl ?_
      refine AW.icmp_lt (tgt := 30) dX7_holdsOnly_17 (by decide) (fun hc => ?_) (fun hc => ?_)
      · have hf := (if_pos hc).symm.trans hf
        refine AW.iconst (v := (0 : Int32)) dX7_holdsOnly_30 (by decide) ?_
        obtain rfl := Option.some.inj hf
        exact AW.zret (st := []) dX7_holdsOnly_31 rfl (Or.inl rfl) hE
      · have hf := (if_neg hc).symm.trans hf
        refine AW.aload_n dX7_holdsOnly_20 rfl ?_
        obtain ⟨a7, ga7, hf⟩ := ob_split hf
        refine TW.getR (v := .ref a7) fX7_15_7 h3 (rf_some ga7) dX7_holdsOnly_21 ?_
        refine AW.iload_n dX7_holdsOnly_24 rfl ?_
        obtain ⟨h8, hf⟩ := gd_split hf
        obtain ⟨h9, hf⟩ := gd_split hf
        refine TW.iald (x := (I a7 (tn i2))) h8 h9 rfl dX7_holdsOnly_25 ?_
        refine AW.iload_n dX7_holdsOnly_26 rfl ?_
        refine AW.icmp_le (tgt := 32) dX7_holdsOnly_27 (by decide) (fun hc => ?_) (fun hc => ?_)
        · have hf := (if_pos hc).symm.trans hf
          refine AW.iinc (v := (i2 + (1 : Int32))) (ls' := [some (.ref a1), some (.int p1), some (.int p2), some (.int (i2 + (1 : Int32)))]) dX7_holdsOnly_32 rfl rfl (Nat.le_of_ble_eq_true rfl) rfl ?_
          refine AW.goto (tgt := 2) dX7_holdsOnly_35 (by decide) ?_
          exact AW.weak _ (by exact (And.intro rfl (And.intro rfl (And.intro rfl (And.intro rfl trivial))))) (ih (i2 + (1 : Int32)) hf hE)
        · have hf := (if_neg hc).symm.trans hf
          refine AW.iconst (v := (0 : Int32)) dX7_holdsOnly_30 (by decide) ?_
          obtain rfl := Option.some.inj hf
          exact AW.zret (st := []) dX7_holdsOnly_31 rfl (Or.inl rfl) hE
def f_X7_holdsOnly (N : Nat) (ρ : Rh) (I : Nat → Nat → Int32) (J : Nat → Nat → Int64) (p0 : Nat) (p1 : Int32) (p2 : Int32) : Option (Int32) := ((f_X7_holdsOnly_2 N I J ρ p0 p1 p2 N (0 : Int32)).bind fun j10 => scase j10 (fun r => some r) (fun j10 => some (1 : Int32)))
theorem c_X7_holdsOnly {G : Gd} {d N : Nat} {K : Ah → Option Value → Prop} {ρ : Rh} {I : Nat → Nat → Int32} {J : Nat → Nat → Int64} {p0 : Nat} {p1 : Int32} {p2 : Int32} {o : Int32} (hs : Sh ρ) (hf : f_X7_holdsOnly N ρ I J p0 p1 p2 = some o) (hK : K (I, J, ρ) (some (.int o))) : AM G d 0 0 mX7_holdsOnly [.ref p0, .int p1, .int p2] (I, J, ρ) K := by
  unfold f_X7_holdsOnly at hf
  refine AM.intro okX7_holdsOnly.2.2.2.1 (Nat.le_of_ble_eq_true rfl) [some (.ref p0), some (.int p1), some (.int p2), none] rfl ?_
  refine AW.iconst (v := (0 : Int32)) dX7_holdsOnly_0 (by decide) ?_
  refine AW.istore_n (ls' := [some (.ref p0), some (.int p1), some (.int p2), some (.int (0 : Int32))]) dX7_holdsOnly_1 (Nat.le_of_ble_eq_true rfl) rfl ?_
  obtain ⟨j10, gj10, hf⟩ := ob_split hf
  refine AW.weak _ (by exact (And.intro rfl (And.intro rfl (And.intro rfl (And.intro rfl trivial))))) (l_X7_holdsOnly_2 hs N (0 : Int32) gj10 ?_)
  rcases j10 with r | j10
  · obtain rfl := Option.some.inj hf; exact hK
  · show AW G mX7_holdsOnly d 0 0 K 38 [none, none, none, none] [] (I, J, ρ)
    refine AW.iconst (v := (1 : Int32)) dX7_holdsOnly_38 (by decide) ?_
    obtain rfl := Option.some.inj hf
    exact AW.zret (st := []) dX7_holdsOnly_39 rfl (Or.inr rfl) hK
def f_X7_cut (N : Nat) (ρ : Rh) (I : Nat → Nat → Int32) (J : Nat → Nat → Int64) (p0 : Nat) (p1 : Int32) : Option (Int32) := (if ρ.2.1 p0 = (0, 7) then (if ((I p0 0) = (0 : Int32)) then some (p1.toInt8.toInt32) else (if ((I p0 0) = (1 : Int32)) then some (p1.toInt16.toInt32) else some p1)) else none)
theorem c_X7_cut {G : Gd} {d N : Nat} {K : Ah → Option Value → Prop} {ρ : Rh} {I : Nat → Nat → Int32} {J : Nat → Nat → Int64} {p0 : Nat} {p1 : Int32} {o : Int32} (hs : Sh ρ) (hf : f_X7_cut N ρ I J p0 p1 = some o) (hK : K (I, J, ρ) (some (.int o))) : AM G d 0 0 mX7_cut [.ref p0, .int p1] (I, J, ρ) K := by
  unfold f_X7_cut at hf
  refine AM.intro okX7_cut.2.2.2.1 (Nat.le_of_ble_eq_true rfl) [some (.ref p0), some (.int p1)] rfl ?_
  refine AW.aload_n dX7_cut_0 rfl ?_
  obtain ⟨h1, hf⟩ := gd_split hf
  refine TW.getI (x := (I p0 0)) fX7_9_7 h1 rfl dX7_cut_1 ?_
  refine AW.if_ne (tgt := 10) dX7_cut_4 (by decide) (fun hc => ?_) (fun hc => ?_)
  · have hf := (if_neg hc).symm.trans hf
    refine AW.aload_n dX7_cut_10 rfl ?_
    refine TW.getI (x := (I p0 0)) fX7_9_7 h1 rfl dX7_cut_11 ?_
    refine AW.iconst (v := (1 : Int32)) dX7_cut_14 (by decide) ?_
    refine AW.icmp_ne (tgt := 23) dX7_cut_15 (by decide) (fun hc => ?_) (fun hc => ?_)
    · have hf := (if_neg hc).symm.trans hf
      refine AW.iload_n dX7_cut_23 rfl ?_
      obtain rfl := Option.some.inj hf
      exact AW.iret (st := []) dX7_cut_24 rfl hK
    · have hf := (if_pos hc).symm.trans hf
      refine AW.iload_n dX7_cut_18 rfl ?_
      refine AW.i2s dX7_cut_19 ?_
      refine AW.goto (tgt := 24) dX7_cut_20 (by decide) ?_
      obtain rfl := Option.some.inj hf
      exact AW.iret (st := []) dX7_cut_24 rfl hK
  · have hf := (if_pos hc).symm.trans hf
    refine AW.iload_n dX7_cut_7 rfl ?_
    refine AW.i2b dX7_cut_8 ?_
    obtain rfl := Option.some.inj hf
    exact AW.iret (st := []) dX7_cut_9 rfl hK
def f_X8_append_5 (N : Nat) (J : Nat → Nat → Int64) (ρ : Rh) (p1 : Int64) : Nat → (Nat → Nat → Int32) → Int32 → Option ((Nat → Nat → Int32))
  | 0, _, _ => none
  | n + 1, I1, i2 => (if (i2 < (0 : Int32)) then some I1 else (if ((160 : Int32) ≤ (I1 35 1)) then some I1 else (bnd (((p1 >>> (((8 : Int32) * i2).toInt64 &&& 63)).toInt32).toInt8.toInt32) fun x3 => (if ¬ ((I1 35 1) < 0 ∨ 160 ≤ tn (I1 35 1)) then f_X8_append_5 N J ρ p1 n (u2 (u2 I1 36 (tn (I1 35 1)) (x3.toInt8.toInt32)) 35 1 ((I1 35 1) + (1 : Int32))) (i2 + (-1 : Int32)) else none))))
theorem l_X8_append_5 {G : Gd} {d N : Nat} {K : Ah → Option Value → Prop} {J : Nat → Nat → Int64} {ρ : Rh} {p1 : Int64} (hs : Sh ρ) {o : (Nat → Nat → Int32)} : ∀ (n : Nat) (I1 : Nat → Nat → Int32) (i2 : Int32), f_X8_append_5 N J ρ p1 n I1 i2 = some o → AW G mX8_append d 0 0 K 54 [none, none, none, none, none] [] (o, J, ρ) → AW G mX8_append d 0 0 K 5 [some (.ref 35), some (.long p1), none, none, some (.int i2)] [] (I1, J, ρ) := by
  intro n
  induction n with
  | zero => intro I1 i2 hf hE; rw [f_X8_append_5.eq_1] at hf; cases hf
  | succ n ih =>
    intro I1 i2 hf hE
    rw [f_X8_append_5.eq_2] at hf
    refine AW.iload dX8_append_5 rfl ?_
    refine AW.if_lt (tgt := 54) dX8_append_7 (by decide) (fun hc => ?_) (fun hc => ?_)
    · have hf := (if_pos hc).symm.trans hf
      obtain rfl := Option.some.inj hf
      exact AW.weak _ (by exact trivial) hE
    · have hf := (if_neg hc).symm.trans hf
      refine AW.aload_n dX8_append_10 rfl ?_
      refine TW.getI (x := (I1 35 1)) fX8_19_8 hs.k35 rfl dX8_append_11 ?_
      refine AW.sipush (v := (160 : Int32)) dX8_append_14 (by decide) ?_
      refine AW.icmp_ge (tgt := 54) dX8_append_17 (by decide) (fun hc => ?_) (fun hc => ?_)
      · have hf := (if_pos hc).symm.trans hf
        obtain rfl := Option.some.inj hf
        exact AW.weak _ (by exact trivial) hE
      · have hf := (if_neg hc).symm.trans hf
        refine AW.aload_n dX8_append_20 rfl ?_
        refine TW.getR fX8_9_8 hs.k35 (rf_some hs.r35_0) dX8_append_21 ?_
        refine AW.aload_n dX8_append_24 rfl ?_
        refine TW.getI (x := (I1 35 1)) fX8_19_8 hs.k35 rfl dX8_append_25 ?_
        refine AW.lload_n dX8_append_28 rfl ?_
        refine AW.bipush (v := (8 : Int32)) dX8_append_29 (by decide) ?_
        refine AW.iload dX8_append_31 rfl ?_
        refine AW.imul dX8_append_33 ?_
        refine AW.lshr dX8_append_34 ?_
        refine AW.l2i dX8_append_35 ?_
        refine AW.i2b dX8_append_36 ?_
        obtain ⟨x3, gx3, hf⟩ := bnd_one hf
        refine AW.nmI gx3 ?_
        obtain ⟨h4, hf⟩ := gd_split hf
        refine TW.bast hs.k36 h4 dX8_append_37 ?_
        show AW G mX8_append d 0 0 K 38 [some (.ref 35), some (.long p1), none, none, some (.int i2)] [] ((u2 I1 36 (tn (I1 35 1)) (x3.toInt8.toInt32)), J, ρ)
        refine AW.aload_n dX8_append_38 rfl ?_
        refine AW.dup dX8_append_39 rfl ?_
        refine TW.getI (x := (I1 35 1)) fX8_19_8 hs.k35 (u2_ne (by decide)) dX8_append_40 ?_
        refine AW.iconst (v := (1 : Int32)) dX8_append_43 (by decide) ?_
        refine AW.iadd dX8_append_44 ?_
        refine TW.putI fX8_19_8 hs.k35 (Or.inl rfl) dX8_append_45 ?_
        show AW G mX8_append d 0 0 K 48 [some (.ref 35), some (.long p1), none, none, some (.int i2)] [] ((u2 (u2 I1 36 (tn (I1 35 1)) (x3.toInt8.toInt32)) 35 1 ((I1 35 1) + (1 : Int32))), J, ρ)
        refine AW.iinc (v := (i2 + (-1 : Int32))) (ls' := [some (.ref 35), some (.long p1), none, none, some (.int (i2 + (-1 : Int32)))]) dX8_append_48 rfl rfl (Nat.le_of_ble_eq_true rfl) rfl ?_
        refine AW.goto (tgt := 5) dX8_append_51 (by decide) ?_
        exact AW.weak _ (by exact (And.intro rfl (And.intro rfl (And.intro rfl trivial)))) (ih (u2 (u2 I1 36 (tn (I1 35 1)) (x3.toInt8.toInt32)) 35 1 ((I1 35 1) + (1 : Int32))) (i2 + (-1 : Int32)) hf hE)
def f_X8_append (N : Nat) (ρ : Rh) (I : Nat → Nat → Int32) (J : Nat → Nat → Int64) (p1 : Int64) (p2 : Int32) : Option ((Nat → Nat → Int32)) := ((f_X8_append_5 N J ρ p1 N I (p2 - (1 : Int32))).bind fun j5 => some j5)
theorem c_X8_append {G : Gd} {d N : Nat} {K : Ah → Option Value → Prop} {ρ : Rh} {I : Nat → Nat → Int32} {J : Nat → Nat → Int64} {p1 : Int64} {p2 : Int32} {o : (Nat → Nat → Int32)} (hs : Sh ρ) (hf : f_X8_append N ρ I J p1 p2 = some o) (hK : K (o, J, ρ) none) : AM G d 0 0 mX8_append [.ref 35, .long p1, .int p2] (I, J, ρ) K := by
  unfold f_X8_append at hf
  refine AM.intro okX8_append.2.2.2.1 (Nat.le_of_ble_eq_true rfl) [some (.ref 35), some (.long p1), none, some (.int p2), none] rfl ?_
  refine AW.iload_n dX8_append_0 rfl ?_
  refine AW.iconst (v := (1 : Int32)) dX8_append_1 (by decide) ?_
  refine AW.isub dX8_append_2 ?_
  refine AW.istore (ls' := [some (.ref 35), some (.long p1), none, some (.int p2), some (.int (p2 - (1 : Int32)))]) dX8_append_3 (Nat.le_of_ble_eq_true rfl) rfl ?_
  obtain ⟨j5, gj5, hf⟩ := ob_split hf
  refine AW.weak _ (by exact (And.intro rfl (And.intro rfl (And.intro rfl trivial)))) (l_X8_append_5 hs N I (p2 - (1 : Int32)) gj5 ?_)
  show AW G mX8_append d 0 0 K 54 [none, none, none, none, none] [] (j5, J, ρ)
  obtain rfl := Option.some.inj hf
  exact AW.vret (st := []) dX8_append_54 rfl hK
def f_X9_toldFor (N : Nat) (ρ : Rh) (I : Nat → Nat → Int32) (J : Nat → Nat → Int64) (p0 : Nat) (p1 : Int32) : Option (Int32) := (if (p1 < (0 : Int32)) then some (0 : Int32) else (if ((8 : Int32) ≤ p1) then some (0 : Int32) else (if ρ.2.1 p0 = (0, 9) then (Option.bind (ρ.1 p0 2) fun a2 => (if ρ.2.1 a2 = (1, (ρ.2.1 a2).2) then (if ¬ (p1 < 0 ∨ (ρ.2.1 a2).2 ≤ tn p1) then some (I a2 (tn p1)) else none) else none)) else none)))
theorem c_X9_toldFor {G : Gd} {d N : Nat} {K : Ah → Option Value → Prop} {ρ : Rh} {I : Nat → Nat → Int32} {J : Nat → Nat → Int64} {p0 : Nat} {p1 : Int32} {o : Int32} (hs : Sh ρ) (hf : f_X9_toldFor N ρ I J p0 p1 = some o) (hK : K (I, J, ρ) (some (.int o))) : AM G d 0 0 mX9_toldFor [.ref p0, .int p1] (I, J, ρ) K := by
  unfold f_X9_toldFor at hf
  refine AM.intro okX9_toldFor.2.2.2.1 (Nat.le_of_ble_eq_true rfl) [some (.ref p0), some (.int p1)] rfl ?_
  refine AW.iload_n dX9_toldFor_0 rfl ?_
  refine AW.if_lt (tgt := 19) dX9_toldFor_1 (by decide) (fun hc => ?_) (fun hc => ?_)
  · have hf := (if_pos hc).symm.trans hf
    refine AW.iconst (v := (0 : Int32)) dX9_toldFor_19 (by decide) ?_
    obtain rfl := Option.some.inj hf
    exact AW.iret (st := []) dX9_toldFor_20 rfl hK
  · have hf := (if_neg hc).symm.trans hf
    refine AW.iload_n dX9_toldFor_4 rfl ?_
    refine AW.bipush (v := (8 : Int32)) dX9_toldFor_5 (by decide) ?_
    refine AW.icmp_ge (tgt := 19) dX9_toldFor_7 (by decide) (fun hc => ?_) (fun hc => ?_)
    · have hf := (if_pos hc).symm.trans hf
      refine AW.iconst (v := (0 : Int32)) dX9_toldFor_19 (by decide) ?_
      obtain rfl := Option.some.inj hf
      exact AW.iret (st := []) dX9_toldFor_20 rfl hK
    · have hf := (if_neg hc).symm.trans hf
      refine AW.aload_n dX9_toldFor_10 rfl ?_
      obtain ⟨h1, hf⟩ := gd_split hf
      obtain ⟨a2, ga2, hf⟩ := ob_split hf
      refine TW.getR (v := .ref a2) fX9_9_9 h1 (rf_some ga2) dX9_toldFor_11 ?_
      refine AW.iload_n dX9_toldFor_14 rfl ?_
      obtain ⟨h3, hf⟩ := gd_split hf
      obtain ⟨h4, hf⟩ := gd_split hf
      refine TW.iald (x := (I a2 (tn p1))) h3 h4 rfl dX9_toldFor_15 ?_
      refine AW.goto (tgt := 20) dX9_toldFor_16 (by decide) ?_
      obtain rfl := Option.some.inj hf
      exact AW.iret (st := []) dX9_toldFor_20 rfl hK
def f_X9_share (N : Nat) (ρ : Rh) (I : Nat → Nat → Int32) (J : Nat → Nat → Int64) (p0 : Nat) (p2 : Int32) : Option (Int32) := (if ρ.2.1 p0 = (0, 9) then (Option.bind (f_X9_toldFor N ρ I J p0 p2) fun v2 => some v2) else none)
theorem c_X9_share {G : Gd} {d N : Nat} {K : Ah → Option Value → Prop} {ρ : Rh} {I : Nat → Nat → Int32} {J : Nat → Nat → Int64} {p0 : Nat} {p2 : Int32} {o : Int32} (hs : Sh ρ) (hf : f_X9_share N ρ I J p0 p2 = some o) (hK : K (I, J, ρ) (some (.int o))) : AM G (d + 1) 0 0 mX9_share [.ref p0, .ref 48, .int p2] (I, J, ρ) K := by
  unfold f_X9_share at hf
  refine AM.intro okX9_share.2.2.2.1 (Nat.le_of_ble_eq_true rfl) [some (.ref p0), some (.ref 48), some (.int p2)] rfl ?_
  refine AW.aload_n dX9_share_0 rfl ?_
  refine AW.iload_n dX9_share_1 rfl ?_
  obtain ⟨h1, hf⟩ := gd_split hf
  obtain ⟨v2, gv2, hf⟩ := ob_split hf
  refine TW.invv (as := [.int p2]) (rest := []) viX9_36_9 h1 dX9_share_2 rfl rfl (Nat.le_of_ble_eq_true rfl) (c_X9_toldFor hs gv2 ?_)
  show AW G mX9_share (d + 1) 0 0 K 5 [some (.ref p0), some (.ref 48), some (.int p2)] [.int v2] (I, J, ρ)
  obtain rfl := Option.some.inj hf
  exact AW.iret (st := []) dX9_share_5 rfl hK
def f_X10_carryOver (N : Nat) (ρ : Rh) (I : Nat → Nat → Int32) (J : Nat → Nat → Int64) : Option ((Nat → Nat → Int32)) := (if ¬ ((I 48 13) < 0 ∨ 13 ≤ tn (I 48 13)) then (if ¬ (((I 48 13) + (1 : Int32)) < 0 ∨ 13 ≤ tn ((I 48 13) + (1 : Int32))) then (if ¬ (((up I (50 + (tn ((I 48 13) + (1 : Int32)))) (cpy (I (50 + (tn (I 48 13)))) (I (50 + (tn ((I 48 13) + (1 : Int32))))) (tn (0 : Int32)) (tn (0 : Int32)) (tn (8 : Int32)))) 48 13) < 0 ∨ 12 ≤ tn ((up I (50 + (tn ((I 48 13) + (1 : Int32)))) (cpy (I (50 + (tn (I 48 13)))) (I (50 + (tn ((I 48 13) + (1 : Int32))))) (tn (0 : Int32)) (tn (0 : Int32)) (tn (8 : Int32)))) 48 13)) then (Option.bind (f_J7_fill_53178 N ρ (up I (50 + (tn ((I 48 13) + (1 : Int32)))) (cpy (I (50 + (tn (I 48 13)))) (I (50 + (tn ((I 48 13) + (1 : Int32))))) (tn (0 : Int32)) (tn (0 : Int32)) (tn (8 : Int32)))) J (64 + (tn ((up I (50 + (tn ((I 48 13) + (1 : Int32)))) (cpy (I (50 + (tn (I 48 13)))) (I (50 + (tn ((I 48 13) + (1 : Int32))))) (tn (0 : Int32)) (tn (0 : Int32)) (tn (8 : Int32)))) 48 13))) (0 : Int32)) fun v7 => (if ¬ ((v7 48 13) < 0 ∨ 13 ≤ tn (v7 48 13)) then (if ¬ (((v7 48 13) + (1 : Int32)) < 0 ∨ 13 ≤ tn ((v7 48 13) + (1 : Int32))) then (if ¬ ((v7 48 13) < 0 ∨ 13 ≤ tn (v7 48 13)) then (if ¬ (((v7 48 13) + (1 : Int32)) < 0 ∨ 13 ≤ tn ((v7 48 13) + (1 : Int32))) then some (u2 (u2 v7 76 (tn ((v7 48 13) + (1 : Int32))) (v7 76 (tn (v7 48 13)))) 77 (tn ((v7 48 13) + (1 : Int32))) (v7 77 (tn (v7 48 13)))) else none) else none) else none) else none)) else none) else none) else none)
theorem c_X10_carryOver {G : Gd} {d N : Nat} {K : Ah → Option Value → Prop} {ρ : Rh} {I : Nat → Nat → Int32} {J : Nat → Nat → Int64} {o : (Nat → Nat → Int32)} (hs : Sh ρ) (hf : f_X10_carryOver N ρ I J = some o) (hK : K (o, J, ρ) none) : AM G (d + 1) 0 0 mX10_carryOver [.ref 48] (I, J, ρ) K := by
  unfold f_X10_carryOver at hf
  refine AM.intro okX10_carryOver.2.2.2.1 (Nat.le_of_ble_eq_true rfl) [some (.ref 48)] rfl ?_
  refine AW.aload_n dX10_carryOver_0 rfl ?_
  refine TW.getR fX10_11_10 hs.k48 (rf_some hs.r48_1) dX10_carryOver_1 ?_
  refine AW.aload_n dX10_carryOver_4 rfl ?_
  refine TW.getI (x := (I 48 13)) fX10_77_10 hs.k48 rfl dX10_carryOver_5 ?_
  obtain ⟨h1, hf⟩ := gd_split hf
  have hl2 : (tn (I 48 13)) < 13 := vp_lt h1
  refine TW.aald (t := 3) hs.k49 (by decide) h1 (rf_some (hs.e49 hl2)) dX10_carryOver_8 ?_
  refine AW.iconst (v := (0 : Int32)) dX10_carryOver_9 (by decide) ?_
  refine AW.aload_n dX10_carryOver_10 rfl ?_
  refine TW.getR fX10_11_10 hs.k48 (rf_some hs.r48_1) dX10_carryOver_11 ?_
  refine AW.aload_n dX10_carryOver_14 rfl ?_
  refine TW.getI (x := (I 48 13)) fX10_77_10 hs.k48 rfl dX10_carryOver_15 ?_
  refine AW.iconst (v := (1 : Int32)) dX10_carryOver_18 (by decide) ?_
  refine AW.iadd dX10_carryOver_19 ?_
  obtain ⟨h3, hf⟩ := gd_split hf
  have hl4 : (tn ((I 48 13) + (1 : Int32))) < 13 := vp_lt h3
  refine TW.aald (t := 3) hs.k49 (by decide) h3 (rf_some (hs.e49 hl4)) dX10_carryOver_20 ?_
  refine AW.iconst (v := (0 : Int32)) dX10_carryOver_21 (by decide) ?_
  refine AW.bipush (v := (8 : Int32)) dX10_carryOver_22 (by decide) ?_
  refine TW.copyI cpX10_71 (hs.ek49 hl2) (hs.ek49 hl4) (by decide) (by decide) (by decide) (by decide) (by decide) (Nat.le_of_ble_eq_true rfl) dX10_carryOver_24 ?_
  show AW G mX10_carryOver (d + 1) 0 0 K 27 [some (.ref 48)] [] ((up I (50 + (tn ((I 48 13) + (1 : Int32)))) (cpy (I (50 + (tn (I 48 13)))) (I (50 + (tn ((I 48 13) + (1 : Int32))))) (tn (0 : Int32)) (tn (0 : Int32)) (tn (8 : Int32)))), J, ρ)
  refine AW.aload_n dX10_carryOver_27 rfl ?_
  refine TW.getR fX10_16_10 hs.k48 (rf_some hs.r48_2) dX10_carryOver_28 ?_
  refine AW.aload_n dX10_carryOver_31 rfl ?_
  refine TW.getI (x := ((up I (50 + (tn ((I 48 13) + (1 : Int32)))) (cpy (I (50 + (tn (I 48 13)))) (I (50 + (tn ((I 48 13) + (1 : Int32))))) (tn (0 : Int32)) (tn (0 : Int32)) (tn (8 : Int32)))) 48 13)) fX10_77_10 hs.k48 rfl dX10_carryOver_32 ?_
  obtain ⟨h5, hf⟩ := gd_split hf
  have hl6 : (tn ((up I (50 + (tn ((I 48 13) + (1 : Int32)))) (cpy (I (50 + (tn (I 48 13)))) (I (50 + (tn ((I 48 13) + (1 : Int32))))) (tn (0 : Int32)) (tn (0 : Int32)) (tn (8 : Int32)))) 48 13)) < 12 := vp_lt h5
  refine TW.aald (t := 3) hs.k63 (by decide) h5 (rf_some (hs.e63 hl6)) dX10_carryOver_35 ?_
  refine AW.iconst (v := (0 : Int32)) dX10_carryOver_36 (by decide) ?_
  obtain ⟨v7, gv7, hf⟩ := ob_split hf
  refine TW.invs (as := [.ref (64 + (tn ((up I (50 + (tn ((I 48 13) + (1 : Int32)))) (cpy (I (50 + (tn (I 48 13)))) (I (50 + (tn ((I 48 13) + (1 : Int32))))) (tn (0 : Int32)) (tn (0 : Int32)) (tn (8 : Int32)))) 48 13))), .int (0 : Int32)]) (rest := []) stX10_105 dX10_carryOver_37 rfl rfl (Nat.le_of_ble_eq_true rfl) (c_J7_fill_53178 hs gv7 ?_)
  show AW G mX10_carryOver (d + 1) 0 0 K 40 [some (.ref 48)] [] (v7, J, ρ)
  refine AW.aload_n dX10_carryOver_40 rfl ?_
  refine TW.getR fX10_19_10 hs.k48 (rf_some hs.r48_3) dX10_carryOver_41 ?_
  refine AW.aload_n dX10_carryOver_44 rfl ?_
  refine TW.getI (x := (v7 48 13)) fX10_77_10 hs.k48 rfl dX10_carryOver_45 ?_
  refine AW.iconst (v := (1 : Int32)) dX10_carryOver_48 (by decide) ?_
  refine AW.iadd dX10_carryOver_49 ?_
  refine AW.aload_n dX10_carryOver_50 rfl ?_
  refine TW.getR fX10_19_10 hs.k48 (rf_some hs.r48_3) dX10_carryOver_51 ?_
  refine AW.aload_n dX10_carryOver_54 rfl ?_
  refine TW.getI (x := (v7 48 13)) fX10_77_10 hs.k48 rfl dX10_carryOver_55 ?_
  obtain ⟨h8, hf⟩ := gd_split hf
  refine TW.iald (x := (v7 76 (tn (v7 48 13)))) hs.k76 h8 rfl dX10_carryOver_58 ?_
  obtain ⟨h9, hf⟩ := gd_split hf
  refine TW.iast hs.k76 h9 dX10_carryOver_59 ?_
  show AW G mX10_carryOver (d + 1) 0 0 K 60 [some (.ref 48)] [] ((u2 v7 76 (tn ((v7 48 13) + (1 : Int32))) (v7 76 (tn (v7 48 13)))), J, ρ)
  refine AW.aload_n dX10_carryOver_60 rfl ?_
  refine TW.getR fX10_23_10 hs.k48 (rf_some hs.r48_4) dX10_carryOver_61 ?_
  refine AW.aload_n dX10_carryOver_64 rfl ?_
  refine TW.getI (x := (v7 48 13)) fX10_77_10 hs.k48 (u2_ne (by decide)) dX10_carryOver_65 ?_
  refine AW.iconst (v := (1 : Int32)) dX10_carryOver_68 (by decide) ?_
  refine AW.iadd dX10_carryOver_69 ?_
  refine AW.aload_n dX10_carryOver_70 rfl ?_
  refine TW.getR fX10_23_10 hs.k48 (rf_some hs.r48_4) dX10_carryOver_71 ?_
  refine AW.aload_n dX10_carryOver_74 rfl ?_
  refine TW.getI (x := (v7 48 13)) fX10_77_10 hs.k48 (u2_ne (by decide)) dX10_carryOver_75 ?_
  obtain ⟨h10, hf⟩ := gd_split hf
  refine TW.iald (x := (v7 77 (tn (v7 48 13)))) hs.k77 h10 (u2_ne (by decide)) dX10_carryOver_78 ?_
  obtain ⟨h11, hf⟩ := gd_split hf
  refine TW.iast hs.k77 h11 dX10_carryOver_79 ?_
  show AW G mX10_carryOver (d + 1) 0 0 K 80 [some (.ref 48)] [] ((u2 (u2 v7 76 (tn ((v7 48 13) + (1 : Int32))) (v7 76 (tn (v7 48 13)))) 77 (tn ((v7 48 13) + (1 : Int32))) (v7 77 (tn (v7 48 13)))), J, ρ)
  obtain rfl := Option.some.inj hf
  exact AW.vret (st := []) dX10_carryOver_80 rfl hK
def f_any_share (N : Nat) (ρ : Rh) (I : Nat → Nat → Int32) (J : Nat → Nat → Int64) (a : Nat) (m : Int32) : Option Int32 := if isR (ρ.2.1 a) then (if (ρ.2.1 a).2 = 6 then f_X6_share N ρ I J a m else (if (ρ.2.1 a).2 = 5 then f_X5_share_5 N ρ I J a m else (if (ρ.2.1 a).2 = 4 then f_X4_share_4 N ρ I J a m else (if (ρ.2.1 a).2 = 3 then f_X3_share N ρ I J a m else (if (ρ.2.1 a).2 = 9 then f_X9_share N ρ I J a m else f_X1_share N ρ I J a m))))) else none
theorem TW.any_share {G : Gd} {d N pc a : Nat} {m v : Int32} {K : Ah → Option Value → Prop} {ls : List (Option Value)} {rest : List Value} {ρ : Rh} {I : Nat → Nat → Int32} {J : Nat → Nat → Int64} (hs : Sh ρ) (hd : decode mX10_drink.2.1 pc = .ok (.invokevirtual 124, 3)) (hg : f_any_share N ρ I J a m = some v) (hr : (rest.map fun v => v.category).sum ≤ 8) (kk : AW G mX10_drink (d + 3) 0 0 K (pc + 3) ls (.int v :: rest) (I, J, ρ)) : AW G mX10_drink (d + 3) 0 0 K pc ls (.int m :: .ref 48 :: .ref a :: rest) (I, J, ρ) := by
  unfold f_any_share at hg
  obtain ⟨⟨h0, h⟩, hg⟩ := gd_split hg
  rcases h with h | h | h | h | h | h
  · have hg : f_X6_share N ρ I J a m = some v := by rw [h] at hg; exact hg
    exact TW.invv (as := [.ref 48, .int m]) (rest := rest) viX10_124_6 (Prod.ext h0 h) hd rfl rfl hr (c_X6_share hs hg kk)
  · have hg : f_X5_share_5 N ρ I J a m = some v := by rw [h] at hg; exact hg
    exact TW.invu (as := [.ref 48, .int m]) (rest := rest) vuX10_124_5 (Prod.ext h0 h) hd rfl rfl hr (c_X5_share_5 hs hg kk)
  · have hg : f_X4_share_4 N ρ I J a m = some v := by rw [h] at hg; exact hg
    exact TW.invu (as := [.ref 48, .int m]) (rest := rest) vuX10_124_4 (Prod.ext h0 h) hd rfl rfl hr (c_X4_share_4 hs hg kk)
  · have hg : f_X3_share N ρ I J a m = some v := by rw [h] at hg; exact hg
    exact TW.invu (as := [.ref 48, .int m]) (rest := rest) vuX10_124_3 (Prod.ext h0 h) hd rfl rfl hr (c_X3_share hs hg kk)
  · have hg : f_X9_share N ρ I J a m = some v := by rw [h] at hg; exact hg
    exact TW.invu (as := [.ref 48, .int m]) (rest := rest) vuX10_124_9 (Prod.ext h0 h) hd rfl rfl hr (c_X9_share hs hg kk)
  · have hg : f_X1_share N ρ I J a m = some v := by rw [h] at hg; exact hg
    exact TW.invu (as := [.ref 48, .int m]) (rest := rest) vuX10_124_1 (Prod.ext h0 h) hd rfl rfl hr (c_X1_share hs hg kk)
def f_X10_drinks (N : Nat) (ρ : Rh) (I : Nat → Nat → Int32) (J : Nat → Nat → Int64) (p1 : Int32) : Option (Int32) := (if ¬ ((I 48 13) < 0 ∨ 13 ≤ tn (I 48 13)) then (if ¬ (p1 < 0 ∨ 8 ≤ tn p1) then (if ((I (50 + (tn (I 48 13))) (tn p1)) ≤ (0 : Int32)) then some (0 : Int32) else (if ((((I 48 10) >>> (p1 &&& 31)) &&& (1 : Int32)) = (1 : Int32)) then some (1 : Int32) else some (0 : Int32))) else none) else none)
theorem c_X10_drinks {G : Gd} {d N : Nat} {K : Ah → Option Value → Prop} {ρ : Rh} {I : Nat → Nat → Int32} {J : Nat → Nat → Int64} {p1 : Int32} {o : Int32} (hs : Sh ρ) (hf : f_X10_drinks N ρ I J p1 = some o) (hK : K (I, J, ρ) (some (.int o))) : AM G d 0 0 mX10_drinks [.ref 48, .int p1] (I, J, ρ) K := by
  unfold f_X10_drinks at hf
  refine AM.intro okX10_drinks.2.2.2.1 (Nat.le_of_ble_eq_true rfl) [some (.ref 48), some (.int p1)] rfl ?_
  refine AW.aload_n dX10_drinks_0 rfl ?_
  refine TW.getR fX10_11_10 hs.k48 (rf_some hs.r48_1) dX10_drinks_1 ?_
  refine AW.aload_n dX10_drinks_4 rfl ?_
  refine TW.getI (x := (I 48 13)) fX10_77_10 hs.k48 rfl dX10_drinks_5 ?_
  obtain ⟨h1, hf⟩ := gd_split hf
  have hl2 : (tn (I 48 13)) < 13 := vp_lt h1
  refine TW.aald (t := 3) hs.k49 (by decide) h1 (rf_some (hs.e49 hl2)) dX10_drinks_8 ?_
  refine AW.iload_n dX10_drinks_9 rfl ?_
  obtain ⟨h3, hf⟩ := gd_split hf
  refine TW.iald (x := (I (50 + (tn (I 48 13))) (tn p1))) (hs.ek49 hl2) h3 rfl dX10_drinks_10 ?_
  refine AW.if_le (tgt := 30) dX10_drinks_11 (by decide) (fun hc => ?_) (fun hc => ?_)
  · have hf := (if_pos hc).symm.trans hf
    refine AW.iconst (v := (0 : Int32)) dX10_drinks_30 (by decide) ?_
    obtain rfl := Option.some.inj hf
    exact AW.zret (st := []) dX10_drinks_31 rfl (Or.inl rfl) hK
  · have hf := (if_neg hc).symm.trans hf
    refine AW.aload_n dX10_drinks_14 rfl ?_
    refine TW.getI (x := (I 48 10)) fX10_57_10 hs.k48 rfl dX10_drinks_15 ?_
    refine AW.iload_n dX10_drinks_18 rfl ?_
    refine AW.ishr dX10_drinks_19 ?_
    refine AW.iconst (v := (1 : Int32)) dX10_drinks_20 (by decide) ?_
    refine AW.iand dX10_drinks_21 ?_
    refine AW.iconst (v := (1 : Int32)) dX10_drinks_22 (by decide) ?_
    refine AW.icmp_ne (tgt := 30) dX10_drinks_23 (by decide) (fun hc => ?_) (fun hc => ?_)
    · have hf := (if_neg hc).symm.trans hf
      refine AW.iconst (v := (0 : Int32)) dX10_drinks_30 (by decide) ?_
      obtain rfl := Option.some.inj hf
      exact AW.zret (st := []) dX10_drinks_31 rfl (Or.inl rfl) hK
    · have hf := (if_pos hc).symm.trans hf
      refine AW.iconst (v := (1 : Int32)) dX10_drinks_26 (by decide) ?_
      refine AW.goto (tgt := 31) dX10_drinks_27 (by decide) ?_
      obtain rfl := Option.some.inj hf
      exact AW.zret (st := []) dX10_drinks_31 rfl (Or.inr rfl) hK
def f_X10_drink_7 (N : Nat) (J : Nat → Nat → Int64) (ρ : Rh) : Nat → (Nat → Nat → Int32) → Int32 → Option ((Nat → Nat → Int32))
  | 0, _, _ => none
  | n + 1, I1, i2 => (if ((I1 42 0) ≤ i2) then some I1 else (Option.bind (f_X10_drinks N ρ I1 J i2) fun v3 => (((if (v3 = (0 : Int32)) then some I1 else some (u2 I1 48 14 ((I1 48 14) + (1 : Int32)))) : Option ((Nat → Nat → Int32))).bind fun j4 => f_X10_drink_7 N J ρ n j4 (i2 + (1 : Int32)))))
theorem l_X10_drink_7 {G : Gd} {d N : Nat} {K : Ah → Option Value → Prop} {J : Nat → Nat → Int64} {ρ : Rh} (hs : Sh ρ) {o : (Nat → Nat → Int32)} : ∀ (n : Nat) (I1 : Nat → Nat → Int32) (i2 : Int32), f_X10_drink_7 N J ρ n I1 i2 = some o → AW G mX10_drink (d + 3) 0 0 K 42 [some (.ref 48), none, none, none, none] [] (o, J, ρ) → AW G mX10_drink (d + 3) 0 0 K 7 [some (.ref 48), some (.int i2), none, none, none] [] (I1, J, ρ) := by
  intro n
  induction n with
  | zero => intro I1 i2 hf hE; rw [f_X10_drink_7.eq_1] at hf; cases hf
  | succ n ih =>
    intro I1 i2 hf hE
    rw [f_X10_drink_7.eq_2] at hf
    refine AW.iload_n dX10_drink_7 rfl ?_
    refine AW.aload_n dX10_drink_8 rfl ?_
    refine TW.getR fX10_36_10 hs.k48 (rf_some hs.r48_0) dX10_drink_9 ?_
    refine TW.getI (x := (I1 42 0)) fX10_111_0 hs.k42 rfl dX10_drink_12 ?_
    refine AW.icmp_ge (tgt := 42) dX10_drink_15 (by decide) (fun hc => ?_) (fun hc => ?_)
    · have hf := (if_pos hc).symm.trans hf
      obtain rfl := Option.some.inj hf
      exact AW.weak _ (by exact (And.intro rfl trivial)) hE
    · have hf := (if_neg hc).symm.trans hf
      refine AW.aload_n dX10_drink_18 rfl ?_
      refine AW.iload_n dX10_drink_19 rfl ?_
      obtain ⟨v3, gv3, hf⟩ := ob_split hf
      refine TW.invv (as := [.int i2]) (rest := []) viX10_117_10 hs.k48 dX10_drink_20 rfl rfl (Nat.le_of_ble_eq_true rfl) (c_X10_drinks hs gv3 ?_)
      show AW G mX10_drink (d + 3) 0 0 K 23 [some (.ref 48), some (.int i2), none, none, none] [.int v3] (I1, J, ρ)
      obtain ⟨j4, gj4, hf⟩ := ob_split hf
      have Kj4 : AW G mX10_drink (d + 3) 0 0 K 36 [some (.ref 48), some (.int i2), none, none, none] [] (j4, J, ρ) := by
        refine AW.iinc (v := (i2 + (1 : Int32))) (ls' := [some (.ref 48), some (.int (i2 + (1 : Int32))), none, none, none]) dX10_drink_36 rfl rfl (Nat.le_of_ble_eq_true rfl) rfl ?_
        refine AW.goto (tgt := 7) dX10_drink_39 (by decide) ?_
        exact AW.weak _ (by exact (And.intro rfl (And.intro rfl trivial))) (ih j4 (i2 + (1 : Int32)) hf hE)
      clear hf; have hf := gj4; clear gj4
      refine AW.if_eq (tgt := 36) dX10_drink_23 (by decide) (fun hc => ?_) (fun hc => ?_)
      · have hf := (if_pos hc).symm.trans hf
        obtain rfl := Option.some.inj hf
        exact AW.weak _ (by exact (And.intro rfl (And.intro rfl trivial))) Kj4
      · have hf := (if_neg hc).symm.trans hf
        refine AW.aload_n dX10_drink_26 rfl ?_
        refine AW.dup dX10_drink_27 rfl ?_
        refine TW.getI (x := (I1 48 14)) fX10_114_10 hs.k48 rfl dX10_drink_28 ?_
        refine AW.iconst (v := (1 : Int32)) dX10_drink_31 (by decide) ?_
        refine AW.iadd dX10_drink_32 ?_
        refine TW.putI fX10_114_10 hs.k48 (Or.inl rfl) dX10_drink_33 ?_
        show AW G mX10_drink (d + 3) 0 0 K 36 [some (.ref 48), some (.int i2), none, none, none] [] ((u2 I1 48 14 ((I1 48 14) + (1 : Int32))), J, ρ)
        obtain rfl := Option.some.inj hf
        exact AW.weak _ (by exact (And.intro rfl (And.intro rfl trivial))) Kj4
def f_X10_drink_54 (N : Nat) (J : Nat → Nat → Int64) (ρ : Rh) : Nat → (Nat → Nat → Int32) → Int32 → Int32 → Option ((Nat → Nat → Int32))
  | 0, _, _, _ => none
  | n + 1, I6, i7, i8 => (if ((I6 42 0) ≤ i8) then some I6 else (Option.bind (f_X10_drinks N ρ I6 J i8) fun v9 => (((if (v9 = (0 : Int32)) then some (i7, I6) else (if ¬ (((I6 48 13) + (1 : Int32)) < 0 ∨ 13 ≤ tn ((I6 48 13) + (1 : Int32))) then (bnd (if (I6 76 (tn ((I6 48 13) + (1 : Int32)))) < i7 then (I6 76 (tn ((I6 48 13) + (1 : Int32)))) else i7) fun x11 => (Option.bind (ρ.1 48 8) fun a12 => (Option.bind (f_any_share N ρ I6 J a12 i8) fun v13 => (bnd (if v13 < x11 then v13 else x11) fun x14 => (if ¬ ((I6 48 13) < 0 ∨ 12 ≤ tn (I6 48 13)) then (if ¬ (i8 < 0 ∨ 8 ≤ tn i8) then (if ¬ ((((u2 I6 (64 + (tn (I6 48 13))) (tn i8) x14) 48 13) + (1 : Int32)) < 0 ∨ 13 ≤ tn (((u2 I6 (64 + (tn (I6 48 13))) (tn i8) x14) 48 13) + (1 : Int32))) then (bnd (((u2 I6 (64 + (tn (I6 48 13))) (tn i8) x14) 76 (tn (((u2 I6 (64 + (tn (I6 48 13))) (tn i8) x14) 48 13) + (1 : Int32)))) - x14) fun x19 => (if ¬ ((((u2 I6 (64 + (tn (I6 48 13))) (tn i8) x14) 48 13) + (1 : Int32)) < 0 ∨ 13 ≤ tn (((u2 I6 (64 + (tn (I6 48 13))) (tn i8) x14) 48 13) + (1 : Int32))) then (bnd (((u2 I6 (64 + (tn (I6 48 13))) (tn i8) x14) 48 15) + (1 : Int32)) fun x21 => some ((i7 - x14), (u2 (u2 (u2 I6 (64 + (tn (I6 48 13))) (tn i8) x14) 76 (tn (((u2 I6 (64 + (tn (I6 48 13))) (tn i8) x14) 48 13) + (1 : Int32))) x19) 48 15 x21))) else none)) else none) else none) else none))))) else none)) : Option (Int32 × (Nat → Nat → Int32))).bind fun j22 => f_X10_drink_54 N J ρ n j22.2 j22.1 (i8 + (1 : Int32)))))
theorem l_X10_drink_54 {G : Gd} {d N : Nat} {K : Ah → Option Value → Prop} {J : Nat → Nat → Int64} {ρ : Rh} (hs : Sh ρ) {o : (Nat → Nat → Int32)} : ∀ (n : Nat) (I6 : Nat → Nat → Int32) (i7 : Int32) (i8 : Int32), f_X10_drink_54 N J ρ n I6 i7 i8 = some o → AW G mX10_drink (d + 3) 0 0 K 154 [none, none, none, none, none] [] (o, J, ρ) → AW G mX10_drink (d + 3) 0 0 K 54 [some (.ref 48), some (.int i7), some (.int i8), none, none] [] (I6, J, ρ) := by
  intro n
  induction n with
  | zero => intro I6 i7 i8 hf hE; rw [f_X10_drink_54.eq_1] at hf; cases hf
  | succ n ih =>
    intro I6 i7 i8 hf hE
    rw [f_X10_drink_54.eq_2] at hf
    refine AW.iload_n dX10_drink_54 rfl ?_
    refine AW.aload_n dX10_drink_55 rfl ?_
    refine TW.getR fX10_36_10 hs.k48 (rf_some hs.r48_0) dX10_drink_56 ?_
    refine TW.getI (x := (I6 42 0)) fX10_111_0 hs.k42 rfl dX10_drink_59 ?_
    refine AW.icmp_ge (tgt := 154) dX10_drink_62 (by decide) (fun hc => ?_) (fun hc => ?_)
    · have hf := (if_pos hc).symm.trans hf
      obtain rfl := Option.some.inj hf
      exact AW.weak _ (by exact trivial) hE
    · have hf := (if_neg hc).symm.trans hf
      refine AW.aload_n dX10_drink_65 rfl ?_
      refine AW.iload_n dX10_drink_66 rfl ?_
      obtain ⟨v9, gv9, hf⟩ := ob_split hf
      refine TW.invv (as := [.int i8]) (rest := []) viX10_117_10 hs.k48 dX10_drink_67 rfl rfl (Nat.le_of_ble_eq_true rfl) (c_X10_drinks hs gv9 ?_)
      show AW G mX10_drink (d + 3) 0 0 K 70 [some (.ref 48), some (.int i7), some (.int i8), none, none] [.int v9] (I6, J, ρ)
      obtain ⟨j22, gj22, hf⟩ := ob_split hf
      have Kj22 : AW G mX10_drink (d + 3) 0 0 K 148 [some (.ref 48), some (.int j22.1), some (.int i8), none, none] [] (j22.2, J, ρ) := by
        refine AW.iinc (v := (i8 + (1 : Int32))) (ls' := [some (.ref 48), some (.int j22.1), some (.int (i8 + (1 : Int32))), none, none]) dX10_drink_148 rfl rfl (Nat.le_of_ble_eq_true rfl) rfl ?_
        refine AW.goto (tgt := 54) dX10_drink_151 (by decide) ?_
        exact AW.weak _ (by exact (And.intro rfl (And.intro rfl (And.intro rfl trivial)))) (ih j22.2 j22.1 (i8 + (1 : Int32)) hf hE)
      clear hf; have hf := gj22; clear gj22
      refine AW.if_eq (tgt := 148) dX10_drink_70 (by decide) (fun hc => ?_) (fun hc => ?_)
      · have hf := (if_pos hc).symm.trans hf
        obtain rfl := Option.some.inj hf
        exact AW.weak _ (by exact (And.intro rfl (And.intro rfl (And.intro rfl trivial)))) Kj22
      · have hf := (if_neg hc).symm.trans hf
        refine AW.iload_n dX10_drink_73 rfl ?_
        refine AW.aload_n dX10_drink_74 rfl ?_
        refine TW.getR fX10_19_10 hs.k48 (rf_some hs.r48_3) dX10_drink_75 ?_
        refine AW.aload_n dX10_drink_78 rfl ?_
        refine TW.getI (x := (I6 48 13)) fX10_77_10 hs.k48 rfl dX10_drink_79 ?_
        refine AW.iconst (v := (1 : Int32)) dX10_drink_82 (by decide) ?_
        refine AW.iadd dX10_drink_83 ?_
        obtain ⟨h10, hf⟩ := gd_split hf
        refine TW.iald (x := (I6 76 (tn ((I6 48 13) + (1 : Int32))))) hs.k76 h10 rfl dX10_drink_84 ?_
        refine AW.mmin mtX10_90 dX10_drink_85 (Nat.le_of_ble_eq_true rfl) ?_
        obtain ⟨x11, gx11, hf⟩ := bnd_one hf
        refine AW.nmI gx11 ?_
        refine AW.istore_n (ls' := [some (.ref 48), some (.int i7), some (.int i8), some (.int x11), none]) dX10_drink_88 (Nat.le_of_ble_eq_true rfl) rfl ?_
        refine AW.iload_n dX10_drink_89 rfl ?_
        refine AW.aload_n dX10_drink_90 rfl ?_
        obtain ⟨a12, ga12, hf⟩ := ob_split hf
        refine TW.getR (v := .ref a12) fX10_49_10 hs.k48 (rf_some ga12) dX10_drink_91 ?_
        refine AW.aload_n dX10_drink_94 rfl ?_
        refine AW.iload_n dX10_drink_95 rfl ?_
        obtain ⟨v13, gv13, hf⟩ := ob_split hf
        refine TW.any_share hs dX10_drink_96 gv13 (Nat.le_of_ble_eq_true rfl) ?_
        show AW G mX10_drink (d + 3) 0 0 K 99 [some (.ref 48), some (.int i7), some (.int i8), some (.int x11), none] [.int v13, .int x11] (I6, J, ρ)
        refine AW.mmin mtX10_90 dX10_drink_99 (Nat.le_of_ble_eq_true rfl) ?_
        obtain ⟨x14, gx14, hf⟩ := bnd_one hf
        refine AW.nmI gx14 ?_
        refine AW.istore (ls' := [some (.ref 48), some (.int i7), some (.int i8), some (.int x11), some (.int x14)]) dX10_drink_102 (Nat.le_of_ble_eq_true rfl) rfl ?_
        refine AW.aload_n dX10_drink_104 rfl ?_
        refine TW.getR fX10_16_10 hs.k48 (rf_some hs.r48_2) dX10_drink_105 ?_
        refine AW.aload_n dX10_drink_108 rfl ?_
        refine TW.getI (x := (I6 48 13)) fX10_77_10 hs.k48 rfl dX10_drink_109 ?_
        obtain ⟨h15, hf⟩ := gd_split hf
        have hl16 : (tn (I6 48 13)) < 12 := vp_lt h15
        refine TW.aald (t := 3) hs.k63 (by decide) h15 (rf_some (hs.e63 hl16)) dX10_drink_112 ?_
        refine AW.iload_n dX10_drink_113 rfl ?_
        refine AW.iload dX10_drink_114 rfl ?_
        obtain ⟨h17, hf⟩ := gd_split hf
        refine TW.iast (hs.ek63 hl16) h17 dX10_drink_116 ?_
        show AW G mX10_drink (d + 3) 0 0 K 117 [some (.ref 48), some (.int i7), some (.int i8), some (.int x11), some (.int x14)] [] ((u2 I6 (64 + (tn (I6 48 13))) (tn i8) x14), J, ρ)
        refine AW.aload_n dX10_drink_117 rfl ?_
        refine TW.getR fX10_19_10 hs.k48 (rf_some hs.r48_3) dX10_drink_118 ?_
        refine AW.aload_n dX10_drink_121 rfl ?_
        refine TW.getI (x := ((u2 I6 (64 + (tn (I6 48 13))) (tn i8) x14) 48 13)) fX10_77_10 hs.k48 rfl dX10_drink_122 ?_
        refine AW.iconst (v := (1 : Int32)) dX10_drink_125 (by decide) ?_
        refine AW.iadd dX10_drink_126 ?_
        refine AW.dup2 dX10_drink_127 rfl rfl ?_
        obtain ⟨h18, hf⟩ := gd_split hf
        refine TW.iald (x := ((u2 I6 (64 + (tn (I6 48 13))) (tn i8) x14) 76 (tn (((u2 I6 (64 + (tn (I6 48 13))) (tn i8) x14) 48 13) + (1 : Int32))))) hs.k76 h18 rfl dX10_drink_128 ?_
        refine AW.iload dX10_drink_129 rfl ?_
        refine AW.isub dX10_drink_131 ?_
        obtain ⟨x19, gx19, hf⟩ := bnd_one hf
        refine AW.nmI gx19 ?_
        obtain ⟨h20, hf⟩ := gd_split hf
        refine TW.iast hs.k76 h20 dX10_drink_132 ?_
        show AW G mX10_drink (d + 3) 0 0 K 133 [some (.ref 48), some (.int i7), some (.int i8), some (.int x11), some (.int x14)] [] ((u2 (u2 I6 (64 + (tn (I6 48 13))) (tn i8) x14) 76 (tn (((u2 I6 (64 + (tn (I6 48 13))) (tn i8) x14) 48 13) + (1 : Int32))) x19), J, ρ)
        refine AW.iload_n dX10_drink_133 rfl ?_
        refine AW.iload dX10_drink_134 rfl ?_
        refine AW.isub dX10_drink_136 ?_
        refine AW.istore_n (ls' := [some (.ref 48), some (.int (i7 - x14)), some (.int i8), some (.int x11), some (.int x14)]) dX10_drink_137 (Nat.le_of_ble_eq_true rfl) rfl ?_
        refine AW.aload_n dX10_drink_138 rfl ?_
        refine AW.dup dX10_drink_139 rfl ?_
        refine TW.getI (x := ((u2 I6 (64 + (tn (I6 48 13))) (tn i8) x14) 48 15)) fX10_121_10 hs.k48 (u2_ne (by decide)) dX10_drink_140 ?_
        refine AW.iconst (v := (1 : Int32)) dX10_drink_143 (by decide) ?_
        refine AW.iadd dX10_drink_144 ?_
        obtain ⟨x21, gx21, hf⟩ := bnd_one hf
        refine AW.nmI gx21 ?_
        refine TW.putI fX10_121_10 hs.k48 (Or.inl rfl) dX10_drink_145 ?_
        show AW G mX10_drink (d + 3) 0 0 K 148 [some (.ref 48), some (.int (i7 - x14)), some (.int i8), some (.int x11), some (.int x14)] [] ((u2 (u2 (u2 I6 (64 + (tn (I6 48 13))) (tn i8) x14) 76 (tn (((u2 I6 (64 + (tn (I6 48 13))) (tn i8) x14) 48 13) + (1 : Int32))) x19) 48 15 x21), J, ρ)
        obtain rfl := Option.some.inj hf
        exact AW.weak _ (by exact (And.intro rfl (And.intro rfl (And.intro rfl trivial)))) Kj22
def f_X10_drink (N : Nat) (ρ : Rh) (I : Nat → Nat → Int32) (J : Nat → Nat → Int64) : Option ((Nat → Nat → Int32)) := ((f_X10_drink_7 N J ρ N (u2 I 48 14 (0 : Int32)) (0 : Int32)).bind fun j5 => ((f_X10_drink_54 N J ρ N (u2 j5 48 15 (0 : Int32)) (j5 48 9) (0 : Int32)).bind fun j23 => some j23))
theorem c_X10_drink {G : Gd} {d N : Nat} {K : Ah → Option Value → Prop} {ρ : Rh} {I : Nat → Nat → Int32} {J : Nat → Nat → Int64} {o : (Nat → Nat → Int32)} (hs : Sh ρ) (hf : f_X10_drink N ρ I J = some o) (hK : K (o, J, ρ) none) : AM G (d + 3) 0 0 mX10_drink [.ref 48] (I, J, ρ) K := by
  unfold f_X10_drink at hf
  refine AM.intro okX10_drink.2.2.2.1 (Nat.le_of_ble_eq_true rfl) [some (.ref 48), none, none, none, none] rfl ?_
  refine AW.aload_n dX10_drink_0 rfl ?_
  refine AW.iconst (v := (0 : Int32)) dX10_drink_1 (by decide) ?_
  refine TW.putI fX10_114_10 hs.k48 (Or.inl rfl) dX10_drink_2 ?_
  show AW G mX10_drink (d + 3) 0 0 K 5 [some (.ref 48), none, none, none, none] [] ((u2 I 48 14 (0 : Int32)), J, ρ)
  refine AW.iconst (v := (0 : Int32)) dX10_drink_5 (by decide) ?_
  refine AW.istore_n (ls' := [some (.ref 48), some (.int (0 : Int32)), none, none, none]) dX10_drink_6 (Nat.le_of_ble_eq_true rfl) rfl ?_
  obtain ⟨j5, gj5, hf⟩ := ob_split hf
  refine AW.weak _ (by exact (And.intro rfl (And.intro rfl trivial))) (l_X10_drink_7 hs N (u2 I 48 14 (0 : Int32)) (0 : Int32) gj5 ?_)
  show AW G mX10_drink (d + 3) 0 0 K 42 [some (.ref 48), none, none, none, none] [] (j5, J, ρ)
  refine AW.aload_n dX10_drink_42 rfl ?_
  refine TW.getI (x := (j5 48 9)) fX10_53_10 hs.k48 rfl dX10_drink_43 ?_
  refine AW.istore_n (ls' := [some (.ref 48), some (.int (j5 48 9)), none, none, none]) dX10_drink_46 (Nat.le_of_ble_eq_true rfl) rfl ?_
  refine AW.aload_n dX10_drink_47 rfl ?_
  refine AW.iconst (v := (0 : Int32)) dX10_drink_48 (by decide) ?_
  refine TW.putI fX10_121_10 hs.k48 (Or.inl rfl) dX10_drink_49 ?_
  show AW G mX10_drink (d + 3) 0 0 K 52 [some (.ref 48), some (.int (j5 48 9)), none, none, none] [] ((u2 j5 48 15 (0 : Int32)), J, ρ)
  refine AW.iconst (v := (0 : Int32)) dX10_drink_52 (by decide) ?_
  refine AW.istore_n (ls' := [some (.ref 48), some (.int (j5 48 9)), some (.int (0 : Int32)), none, none]) dX10_drink_53 (Nat.le_of_ble_eq_true rfl) rfl ?_
  obtain ⟨j23, gj23, hf⟩ := ob_split hf
  refine AW.weak _ (by exact (And.intro rfl (And.intro rfl (And.intro rfl trivial)))) (l_X10_drink_54 hs N (u2 j5 48 15 (0 : Int32)) (j5 48 9) (0 : Int32) gj23 ?_)
  show AW G mX10_drink (d + 3) 0 0 K 154 [none, none, none, none, none] [] (j23, J, ρ)
  obtain rfl := Option.some.inj hf
  exact AW.vret (st := []) dX10_drink_154 rfl hK
