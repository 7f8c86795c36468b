/-! ===== methods 14.model 1 ===== -/
def f_X12_first (N : Nat) (ρ : Rh) (I : Nat → Nat → Int32) (J : Nat → Nat → Int64) (p1 : Int32) (p2 : Int32) (p3 : Int32) (p4 : Int32) (p5 : Int32) : Option ((Nat → Nat → Int32)) := (if ¬ (p1 < 0 ∨ 1200 ≤ tn p1) then (if ¬ ((p1 + (1 : Int32)) < 0 ∨ 1200 ≤ tn (p1 + (1 : Int32))) then (if ¬ ((p1 + (2 : Int32)) < 0 ∨ 1200 ≤ tn (p1 + (2 : Int32))) then (if ¬ ((p1 + (3 : Int32)) < 0 ∨ 1200 ≤ tn (p1 + (3 : Int32))) then some (u2 (u2 (u2 (u2 I 98 (tn p1) p2) 98 (tn (p1 + (1 : Int32))) p3) 98 (tn (p1 + (2 : Int32))) p4) 98 (tn (p1 + (3 : Int32))) p5) else none) else none) else none) else none)
theorem c_X12_first {G : Gd} {d N : Nat} {K : Ah → Option Value → Prop} {ρ : Rh} {I : Nat → Nat → Int32} {J : Nat → Nat → Int64} {p1 : Int32} {p2 : Int32} {p3 : Int32} {p4 : Int32} {p5 : Int32} {o : (Nat → Nat → Int32)} (hs : Sh ρ) (hf : f_X12_first N ρ I J p1 p2 p3 p4 p5 = some o) (hK : K (o, J, ρ) none) : AM G d 0 0 mX12_first [.ref 89, .int p1, .int p2, .int p3, .int p4, .int p5] (I, J, ρ) K := by
  unfold f_X12_first at hf
  refine AM.intro okX12_first.2.2.2.1 (Nat.le_of_ble_eq_true rfl) [some (.ref 89), some (.int p1), some (.int p2), some (.int p3), some (.int p4), some (.int p5)] rfl ?_
  refine AW.aload_n dX12_first_0 rfl ?_
  refine TW.getR fX12_47_12 hs.k89 (rf_some hs.r89_15) dX12_first_1 ?_
  refine AW.iload_n dX12_first_4 rfl ?_
  refine AW.iload_n dX12_first_5 rfl ?_
  obtain ⟨h1, hf⟩ := gd_split hf
  refine TW.iast hs.k98 h1 dX12_first_6 ?_
  show AW G mX12_first d 0 0 K 7 [some (.ref 89), some (.int p1), some (.int p2), some (.int p3), some (.int p4), some (.int p5)] [] ((u2 I 98 (tn p1) p2), J, ρ)
  refine AW.aload_n dX12_first_7 rfl ?_
  refine TW.getR fX12_47_12 hs.k89 (rf_some hs.r89_15) dX12_first_8 ?_
  refine AW.iload_n dX12_first_11 rfl ?_
  refine AW.iconst (v := (1 : Int32)) dX12_first_12 (by decide) ?_
  refine AW.iadd dX12_first_13 ?_
  refine AW.iload_n dX12_first_14 rfl ?_
  obtain ⟨h2, hf⟩ := gd_split hf
  refine TW.iast hs.k98 h2 dX12_first_15 ?_
  show AW G mX12_first d 0 0 K 16 [some (.ref 89), some (.int p1), some (.int p2), some (.int p3), some (.int p4), some (.int p5)] [] ((u2 (u2 I 98 (tn p1) p2) 98 (tn (p1 + (1 : Int32))) p3), J, ρ)
  refine AW.aload_n dX12_first_16 rfl ?_
  refine TW.getR fX12_47_12 hs.k89 (rf_some hs.r89_15) dX12_first_17 ?_
  refine AW.iload_n dX12_first_20 rfl ?_
  refine AW.iconst (v := (2 : Int32)) dX12_first_21 (by decide) ?_
  refine AW.iadd dX12_first_22 ?_
  refine AW.iload dX12_first_23 rfl ?_
  obtain ⟨h3, hf⟩ := gd_split hf
  refine TW.iast hs.k98 h3 dX12_first_25 ?_
  show AW G mX12_first d 0 0 K 26 [some (.ref 89), some (.int p1), some (.int p2), some (.int p3), some (.int p4), some (.int p5)] [] ((u2 (u2 (u2 I 98 (tn p1) p2) 98 (tn (p1 + (1 : Int32))) p3) 98 (tn (p1 + (2 : Int32))) p4), J, ρ)
  refine AW.aload_n dX12_first_26 rfl ?_
  refine TW.getR fX12_47_12 hs.k89 (rf_some hs.r89_15) dX12_first_27 ?_
  refine AW.iload_n dX12_first_30 rfl ?_
  refine AW.iconst (v := (3 : Int32)) dX12_first_31 (by decide) ?_
  refine AW.iadd dX12_first_32 ?_
  refine AW.iload dX12_first_33 rfl ?_
  obtain ⟨h4, hf⟩ := gd_split hf
  refine TW.iast hs.k98 h4 dX12_first_35 ?_
  show AW G mX12_first d 0 0 K 36 [some (.ref 89), some (.int p1), some (.int p2), some (.int p3), some (.int p4), some (.int p5)] [] ((u2 (u2 (u2 (u2 I 98 (tn p1) p2) 98 (tn (p1 + (1 : Int32))) p3) 98 (tn (p1 + (2 : Int32))) p4) 98 (tn (p1 + (3 : Int32))) p5), J, ρ)
  obtain rfl := Option.some.inj hf
  exact AW.vret (st := []) dX12_first_36 rfl hK
def f_X12_in (N : Nat) (ρ : Rh) (I : Nat → Nat → Int32) (J : Nat → Nat → Int64) (p1 : Int32) (p2 : Int32) (p3 : Int32) : Option (Int32) := (if (p1 < p2) then some (0 : Int32) else (if (p3 < p1) then some (0 : Int32) else some (1 : Int32)))
theorem c_X12_in {G : Gd} {d N : Nat} {K : Ah → Option Value → Prop} {ρ : Rh} {I : Nat → Nat → Int32} {J : Nat → Nat → Int64} {p1 : Int32} {p2 : Int32} {p3 : Int32} {o : Int32} (hs : Sh ρ) (hf : f_X12_in N ρ I J p1 p2 p3 = some o) (hK : K (I, J, ρ) (some (.int o))) : AM G d 0 0 mX12_in [.int p1, .int p2, .int p3] (I, J, ρ) K := by
  unfold f_X12_in at hf
  refine AM.intro okX12_in.2.2.2.1 (Nat.le_of_ble_eq_true rfl) [some (.int p1), some (.int p2), some (.int p3)] rfl ?_
  refine AW.iload_n dX12_in_0 rfl ?_
  refine AW.iload_n dX12_in_1 rfl ?_
  refine AW.icmp_lt (tgt := 14) dX12_in_2 (by decide) (fun hc => ?_) (fun hc => ?_)
  · have hf := (if_pos hc).symm.trans hf
    refine AW.iconst (v := (0 : Int32)) dX12_in_14 (by decide) ?_
    obtain rfl := Option.some.inj hf
    exact AW.zret (st := []) dX12_in_15 rfl (Or.inl rfl) hK
  · have hf := (if_neg hc).symm.trans hf
    refine AW.iload_n dX12_in_5 rfl ?_
    refine AW.iload_n dX12_in_6 rfl ?_
    refine AW.icmp_gt (tgt := 14) dX12_in_7 (by decide) (fun hc => ?_) (fun hc => ?_)
    · have hf := (if_pos hc).symm.trans hf
      refine AW.iconst (v := (0 : Int32)) dX12_in_14 (by decide) ?_
      obtain rfl := Option.some.inj hf
      exact AW.zret (st := []) dX12_in_15 rfl (Or.inl rfl) hK
    · have hf := (if_neg hc).symm.trans hf
      refine AW.iconst (v := (1 : Int32)) dX12_in_10 (by decide) ?_
      refine AW.goto (tgt := 15) dX12_in_11 (by decide) ?_
      obtain rfl := Option.some.inj hf
      exact AW.zret (st := []) dX12_in_15 rfl (Or.inr rfl) hK
theorem z_X12_in {N : Nat} {ρ : Rh} {I : Nat → Nat → Int32} {J : Nat → Nat → Int64} {p1 : Int32} {p2 : Int32} {p3 : Int32} {o : Int32} (hf : f_X12_in N ρ I J p1 p2 p3 = some o) : o = 0 ∨ o = 1 := by
  unfold f_X12_in at hf
  repeat' split at hf
  all_goals (obtain rfl := Option.some.inj hf; first | exact Or.inl rfl | exact Or.inr rfl)
def f_X12_isMan (N : Nat) (ρ : Rh) (I : Nat → Nat → Int32) (J : Nat → Nat → Int64) (p1 : Int32) : Option (Int32) := (Option.bind (f_X12_in N ρ I J p1 (0 : Int32) ((I 89 0) - (1 : Int32))) fun v1 => some v1)
theorem c_X12_isMan {G : Gd} {d N : Nat} {K : Ah → Option Value → Prop} {ρ : Rh} {I : Nat → Nat → Int32} {J : Nat → Nat → Int64} {p1 : Int32} {o : Int32} (hs : Sh ρ) (hf : f_X12_isMan N ρ I J p1 = some o) (hK : K (I, J, ρ) (some (.int o))) : AM G (d + 1) 0 0 mX12_isMan [.ref 89, .int p1] (I, J, ρ) K := by
  unfold f_X12_isMan at hf
  refine AM.intro okX12_isMan.2.2.2.1 (Nat.le_of_ble_eq_true rfl) [some (.ref 89), some (.int p1)] rfl ?_
  refine AW.iload_n dX12_isMan_0 rfl ?_
  refine AW.iconst (v := (0 : Int32)) dX12_isMan_1 (by decide) ?_
  refine AW.aload_n dX12_isMan_2 rfl ?_
  refine TW.getI (x := (I 89 0)) fX12_130_12 hs.k89 rfl dX12_isMan_3 ?_
  refine AW.iconst (v := (1 : Int32)) dX12_isMan_6 (by decide) ?_
  refine AW.isub dX12_isMan_7 ?_
  obtain ⟨v1, gv1, hf⟩ := ob_split hf
  refine TW.invs (as := [.int p1, .int (0 : Int32), .int ((I 89 0) - (1 : Int32))]) (rest := []) stX12_133 dX12_isMan_8 rfl rfl (Nat.le_of_ble_eq_true rfl) (c_X12_in hs gv1 ?_)
  show AW G mX12_isMan (d + 1) 0 0 K 11 [some (.ref 89), some (.int p1)] [.int v1] (I, J, ρ)
  obtain rfl := Option.some.inj hf
  exact AW.zret (st := []) dX12_isMan_11 rfl (z_X12_in gv1) hK
def f_X12_isRule (N : Nat) (ρ : Rh) (I : Nat → Nat → Int32) (J : Nat → Nat → Int64) (p1 : Int32) : Option (Int32) := (Option.bind (f_X12_in N ρ I J p1 (0 : Int32) ((I 89 9) - (1 : Int32))) fun v1 => some v1)
theorem c_X12_isRule {G : Gd} {d N : Nat} {K : Ah → Option Value → Prop} {ρ : Rh} {I : Nat → Nat → Int32} {J : Nat → Nat → Int64} {p1 : Int32} {o : Int32} (hs : Sh ρ) (hf : f_X12_isRule N ρ I J p1 = some o) (hK : K (I, J, ρ) (some (.int o))) : AM G (d + 1) 0 0 mX12_isRule [.ref 89, .int p1] (I, J, ρ) K := by
  unfold f_X12_isRule at hf
  refine AM.intro okX12_isRule.2.2.2.1 (Nat.le_of_ble_eq_true rfl) [some (.ref 89), some (.int p1)] rfl ?_
  refine AW.iload_n dX12_isRule_0 rfl ?_
  refine AW.iconst (v := (0 : Int32)) dX12_isRule_1 (by decide) ?_
  refine AW.aload_n dX12_isRule_2 rfl ?_
  refine TW.getI (x := (I 89 9)) fX12_137_12 hs.k89 rfl dX12_isRule_3 ?_
  refine AW.iconst (v := (1 : Int32)) dX12_isRule_6 (by decide) ?_
  refine AW.isub dX12_isRule_7 ?_
  obtain ⟨v1, gv1, hf⟩ := ob_split hf
  refine TW.invs (as := [.int p1, .int (0 : Int32), .int ((I 89 9) - (1 : Int32))]) (rest := []) stX12_133 dX12_isRule_8 rfl rfl (Nat.le_of_ble_eq_true rfl) (c_X12_in hs gv1 ?_)
  show AW G mX12_isRule (d + 1) 0 0 K 11 [some (.ref 89), some (.int p1)] [.int v1] (I, J, ρ)
  obtain rfl := Option.some.inj hf
  exact AW.zret (st := []) dX12_isRule_11 rfl (z_X12_in gv1) hK
def f_X12_man (N : Nat) (ρ : Rh) (I : Nat → Nat → Int32) (J : Nat → Nat → Int64) (p1 : Int32) (p2 : Int32) : Option ((Nat → Nat → Int32) × Int32) := (Option.bind (f_X12_in N ρ I J p1 (1 : Int32) (99 : Int32)) fun v1 => (if (v1 = (0 : Int32)) then some (I, (-2 : Int32)) else (Option.bind (f_X12_in N ρ I J p2 (0 : Int32) (9 : Int32)) fun v2 => (if (v2 = (0 : Int32)) then some (I, (-2 : Int32)) else (if ((I 89 0) = (8 : Int32)) then some (I, (-4 : Int32)) else (if ¬ ((I 89 0) < 0 ∨ 8 ≤ tn (I 89 0)) then (if ¬ ((I 89 0) < 0 ∨ 8 ≤ tn (I 89 0)) then some ((u2 (u2 (u2 I 90 (tn (I 89 0)) p1) 91 (tn (I 89 0)) p2) 89 0 ((I 89 0) + (1 : Int32))), (((I 89 0) + (1 : Int32)) - (1 : Int32))) else none) else none))))))
theorem c_X12_man {G : Gd} {d N : Nat} {K : Ah → Option Value → Prop} {ρ : Rh} {I : Nat → Nat → Int32} {J : Nat → Nat → Int64} {p1 : Int32} {p2 : Int32} {o : (Nat → Nat → Int32) × Int32} (hs : Sh ρ) (hf : f_X12_man N ρ I J p1 p2 = some o) (hK : K (o.1, J, ρ) (some (.int o.2))) : AM G (d + 1) 0 0 mX12_man [.ref 89, .int p1, .int p2] (I, J, ρ) K := by
  unfold f_X12_man at hf
  refine AM.intro okX12_man.2.2.2.1 (Nat.le_of_ble_eq_true rfl) [some (.ref 89), some (.int p1), some (.int p2)] rfl ?_
  refine AW.iload_n dX12_man_0 rfl ?_
  refine AW.iconst (v := (1 : Int32)) dX12_man_1 (by decide) ?_
  refine AW.bipush (v := (99 : Int32)) dX12_man_2 (by decide) ?_
  obtain ⟨v1, gv1, hf⟩ := ob_split hf
  refine TW.invs (as := [.int p1, .int (1 : Int32), .int (99 : Int32)]) (rest := []) stX12_133 dX12_man_4 rfl rfl (Nat.le_of_ble_eq_true rfl) (c_X12_in hs gv1 ?_)
  show AW G mX12_man (d + 1) 0 0 K 7 [some (.ref 89), some (.int p1), some (.int p2)] [.int v1] (I, J, ρ)
  refine AW.if_eq (tgt := 20) dX12_man_7 (by decide) (fun hc => ?_) (fun hc => ?_)
  · have hf := (if_pos hc).symm.trans hf
    refine AW.bipush (v := (-2 : Int32)) dX12_man_20 (by decide) ?_
    obtain rfl := Option.some.inj hf
    exact AW.iret (st := []) dX12_man_22 rfl hK
  · have hf := (if_neg hc).symm.trans hf
    refine AW.iload_n dX12_man_10 rfl ?_
    refine AW.iconst (v := (0 : Int32)) dX12_man_11 (by decide) ?_
    refine AW.bipush (v := (9 : Int32)) dX12_man_12 (by decide) ?_
    obtain ⟨v2, gv2, hf⟩ := ob_split hf
    refine TW.invs (as := [.int p2, .int (0 : Int32), .int (9 : Int32)]) (rest := []) stX12_133 dX12_man_14 rfl rfl (Nat.le_of_ble_eq_true rfl) (c_X12_in hs gv2 ?_)
    show AW G mX12_man (d + 1) 0 0 K 17 [some (.ref 89), some (.int p1), some (.int p2)] [.int v2] (I, J, ρ)
    refine AW.if_ne (tgt := 23) dX12_man_17 (by decide) (fun hc => ?_) (fun hc => ?_)
    · have hf := (if_neg hc).symm.trans hf
      refine AW.aload_n dX12_man_23 rfl ?_
      refine TW.getI (x := (I 89 0)) fX12_130_12 hs.k89 rfl dX12_man_24 ?_
      refine AW.bipush (v := (8 : Int32)) dX12_man_27 (by decide) ?_
      refine AW.icmp_ne (tgt := 35) dX12_man_29 (by decide) (fun hc => ?_) (fun hc => ?_)
      · have hf := (if_neg hc).symm.trans hf
        refine AW.aload_n dX12_man_35 rfl ?_
        refine TW.getR fX12_7_12 hs.k89 (rf_some hs.r89_1) dX12_man_36 ?_
        refine AW.aload_n dX12_man_39 rfl ?_
        refine TW.getI (x := (I 89 0)) fX12_130_12 hs.k89 rfl dX12_man_40 ?_
        refine AW.iload_n dX12_man_43 rfl ?_
        obtain ⟨h3, hf⟩ := gd_split hf
        refine TW.iast hs.k90 h3 dX12_man_44 ?_
        show AW G mX12_man (d + 1) 0 0 K 45 [some (.ref 89), some (.int p1), some (.int p2)] [] ((u2 I 90 (tn (I 89 0)) p1), J, ρ)
        refine AW.aload_n dX12_man_45 rfl ?_
        refine TW.getR fX12_13_12 hs.k89 (rf_some hs.r89_2) dX12_man_46 ?_
        refine AW.aload_n dX12_man_49 rfl ?_
        refine TW.getI (x := (I 89 0)) fX12_130_12 hs.k89 (u2_ne (by decide)) dX12_man_50 ?_
        refine AW.iload_n dX12_man_53 rfl ?_
        obtain ⟨h4, hf⟩ := gd_split hf
        refine TW.iast hs.k91 h4 dX12_man_54 ?_
        show AW G mX12_man (d + 1) 0 0 K 55 [some (.ref 89), some (.int p1), some (.int p2)] [] ((u2 (u2 I 90 (tn (I 89 0)) p1) 91 (tn (I 89 0)) p2), J, ρ)
        refine AW.aload_n dX12_man_55 rfl ?_
        refine AW.dup dX12_man_56 rfl ?_
        refine TW.getI (x := (I 89 0)) fX12_130_12 hs.k89 ((u2_ne (by decide)).trans (u2_ne (by decide))) dX12_man_57 ?_
        refine AW.iconst (v := (1 : Int32)) dX12_man_60 (by decide) ?_
        refine AW.iadd dX12_man_61 ?_
        refine TW.putI fX12_130_12 hs.k89 (Or.inl rfl) dX12_man_62 ?_
        show AW G mX12_man (d + 1) 0 0 K 65 [some (.ref 89), some (.int p1), some (.int p2)] [] ((u2 (u2 (u2 I 90 (tn (I 89 0)) p1) 91 (tn (I 89 0)) p2) 89 0 ((I 89 0) + (1 : Int32))), J, ρ)
        refine AW.aload_n dX12_man_65 rfl ?_
        refine TW.getI (x := ((I 89 0) + (1 : Int32))) fX12_130_12 hs.k89 u2_eq dX12_man_66 ?_
        refine AW.iconst (v := (1 : Int32)) dX12_man_69 (by decide) ?_
        refine AW.isub dX12_man_70 ?_
        obtain rfl := Option.some.inj hf
        exact AW.iret (st := []) dX12_man_71 rfl hK
      · have hf := (if_pos hc).symm.trans hf
        refine AW.bipush (v := (-4 : Int32)) dX12_man_32 (by decide) ?_
        obtain rfl := Option.some.inj hf
        exact AW.iret (st := []) dX12_man_34 rfl hK
    · have hf := (if_pos hc).symm.trans hf
      refine AW.bipush (v := (-2 : Int32)) dX12_man_20 (by decide) ?_
      obtain rfl := Option.some.inj hf
      exact AW.iret (st := []) dX12_man_22 rfl hK
def f_X12_set (N : Nat) (ρ : Rh) (I : Nat → Nat → Int32) (J : Nat → Nat → Int64) (p1 : Int32) (p2 : Int32) (p3 : Int32) : Option ((Nat → Nat → Int32) × Int32) := (Option.bind (f_X12_isMan N ρ I J p1) fun v1 => (if (v1 = (0 : Int32)) then some (I, (-5 : Int32)) else (((if (p2 = (0 : Int32)) then (Option.bind (f_X12_in N ρ I J p3 (1 : Int32) (99 : Int32)) fun v3 => some v3) else (if (p2 = (1 : Int32)) then (Option.bind (f_X12_in N ρ I J p3 (0 : Int32) (9 : Int32)) fun v2 => (if (v2 = (0 : Int32)) then some (0 : Int32) else some (1 : Int32))) else some (0 : Int32))) : Option (Int32)).bind fun j4 => (if (j4 = (0 : Int32)) then some (I, (-7 : Int32)) else (((if (p2 = (0 : Int32)) then (if ¬ (p1 < 0 ∨ 8 ≤ tn p1) then some (I 90 (tn p1)) else none) else (if ¬ (p1 < 0 ∨ 8 ≤ tn p1) then some (I 91 (tn p1)) else none)) : Option (Int32)).bind fun j7 => (((if (p2 = (0 : Int32)) then (if ¬ (p1 < 0 ∨ 8 ≤ tn p1) then some (u2 I 90 (tn p1) p3) else none) else (if ¬ (p1 < 0 ∨ 8 ≤ tn p1) then some (u2 I 91 (tn p1) p3) else none)) : Option ((Nat → Nat → Int32))).bind fun j10 => some (j10, j7)))))))
theorem c_X12_set {G : Gd} {d N : Nat} {K : Ah → Option Value → Prop} {ρ : Rh} {I : Nat → Nat → Int32} {J : Nat → Nat → Int64} {p1 : Int32} {p2 : Int32} {p3 : Int32} {o : (Nat → Nat → Int32) × Int32} (hs : Sh ρ) (hf : f_X12_set N ρ I J p1 p2 p3 = some o) (hK : K (o.1, J, ρ) (some (.int o.2))) : AM G (d + 2) 0 0 mX12_set [.ref 89, .int p1, .int p2, .int p3] (I, J, ρ) K := by
  unfold f_X12_set at hf
  refine AM.intro okX12_set.2.2.2.1 (Nat.le_of_ble_eq_true rfl) [some (.ref 89), some (.int p1), some (.int p2), some (.int p3), none, none] rfl ?_
  refine AW.aload_n dX12_set_0 rfl ?_
  refine AW.iload_n dX12_set_1 rfl ?_
  obtain ⟨v1, gv1, hf⟩ := ob_split hf
  refine TW.invv (as := [.int p1]) (rest := []) viX12_140_12 hs.k89 dX12_set_2 rfl rfl (Nat.le_of_ble_eq_true rfl) (c_X12_isMan hs gv1 ?_)
  show AW G mX12_set (d + 2) 0 0 K 5 [some (.ref 89), some (.int p1), some (.int p2), some (.int p3), none, none] [.int v1] (I, J, ρ)
  refine AW.if_ne (tgt := 11) dX12_set_5 (by decide) (fun hc => ?_) (fun hc => ?_)
  · have hf := (if_neg hc).symm.trans hf
    refine AW.iload_n dX12_set_11 rfl ?_
    obtain ⟨j4, gj4, hf⟩ := ob_split hf
    have Kj4 : AW G mX12_set (d + 2) 0 0 K 45 [some (.ref 89), some (.int p1), some (.int p2), some (.int p3), none, none] [.int j4] (I, J, ρ) := by
      refine AW.istore (ls' := [some (.ref 89), some (.int p1), some (.int p2), some (.int p3), some (.int j4), none]) dX12_set_45 (Nat.le_of_ble_eq_true rfl) rfl ?_
      refine AW.iload dX12_set_47 rfl ?_
      refine AW.if_ne (tgt := 55) dX12_set_49 (by decide) (fun hc => ?_) (fun hc => ?_)
      · have hf := (if_neg hc).symm.trans hf
        refine AW.iload_n dX12_set_55 rfl ?_
        obtain ⟨j7, gj7, hf⟩ := ob_split hf
        have Kj7 : AW G mX12_set (d + 2) 0 0 K 74 [some (.ref 89), some (.int p1), some (.int p2), some (.int p3), none, none] [.int j7] (I, J, ρ) := by
          refine AW.istore (ls' := [some (.ref 89), some (.int p1), some (.int p2), some (.int p3), none, some (.int j7)]) dX12_set_74 (Nat.le_of_ble_eq_true rfl) rfl ?_
          refine AW.iload_n dX12_set_76 rfl ?_
          obtain ⟨j10, gj10, hf⟩ := ob_split hf
          have Kj10 : AW G mX12_set (d + 2) 0 0 K 97 [none, none, none, none, none, some (.int j7)] [] (j10, J, ρ) := by
            refine AW.iload dX12_set_97 rfl ?_
            obtain rfl := Option.some.inj hf
            exact AW.iret (st := []) dX12_set_99 rfl hK
          clear hf; have hf := gj10; clear gj10
          refine AW.if_ne (tgt := 90) dX12_set_77 (by decide) (fun hc => ?_) (fun hc => ?_)
          · have hf := (if_neg hc).symm.trans hf
            refine AW.aload_n dX12_set_90 rfl ?_
            refine TW.getR fX12_13_12 hs.k89 (rf_some hs.r89_2) dX12_set_91 ?_
            refine AW.iload_n dX12_set_94 rfl ?_
            refine AW.iload_n dX12_set_95 rfl ?_
            obtain ⟨h8, hf⟩ := gd_split hf
            refine TW.iast hs.k91 h8 dX12_set_96 ?_
            show AW G mX12_set (d + 2) 0 0 K 97 [some (.ref 89), some (.int p1), some (.int p2), some (.int p3), none, some (.int j7)] [] ((u2 I 91 (tn p1) p3), J, ρ)
            obtain rfl := Option.some.inj hf
            exact AW.weak _ (by exact (And.intro rfl trivial)) Kj10
          · have hf := (if_pos hc).symm.trans hf
            refine AW.aload_n dX12_set_80 rfl ?_
            refine TW.getR fX12_7_12 hs.k89 (rf_some hs.r89_1) dX12_set_81 ?_
            refine AW.iload_n dX12_set_84 rfl ?_
            refine AW.iload_n dX12_set_85 rfl ?_
            obtain ⟨h9, hf⟩ := gd_split hf
            refine TW.iast hs.k90 h9 dX12_set_86 ?_
            show AW G mX12_set (d + 2) 0 0 K 87 [some (.ref 89), some (.int p1), some (.int p2), some (.int p3), none, some (.int j7)] [] ((u2 I 90 (tn p1) p3), J, ρ)
            refine AW.goto (tgt := 97) dX12_set_87 (by decide) ?_
            obtain rfl := Option.some.inj hf
            exact AW.weak _ (by exact (And.intro rfl trivial)) Kj10
        clear hf; have hf := gj7; clear gj7
        refine AW.if_ne (tgt := 68) dX12_set_56 (by decide) (fun hc => ?_) (fun hc => ?_)
        · have hf := (if_neg hc).symm.trans hf
          refine AW.aload_n dX12_set_68 rfl ?_
          refine TW.getR fX12_13_12 hs.k89 (rf_some hs.r89_2) dX12_set_69 ?_
          refine AW.iload_n dX12_set_72 rfl ?_
          obtain ⟨h5, hf⟩ := gd_split hf
          refine TW.iald (x := (I 91 (tn p1))) hs.k91 h5 rfl dX12_set_73 ?_
          obtain rfl := Option.some.inj hf
          exact AW.weak _ (by exact (And.intro rfl (And.intro rfl (And.intro rfl (And.intro rfl trivial))))) Kj7
        · have hf := (if_pos hc).symm.trans hf
          refine AW.aload_n dX12_set_59 rfl ?_
          refine TW.getR fX12_7_12 hs.k89 (rf_some hs.r89_1) dX12_set_60 ?_
          refine AW.iload_n dX12_set_63 rfl ?_
          obtain ⟨h6, hf⟩ := gd_split hf
          refine TW.iald (x := (I 90 (tn p1))) hs.k90 h6 rfl dX12_set_64 ?_
          refine AW.goto (tgt := 74) dX12_set_65 (by decide) ?_
          obtain rfl := Option.some.inj hf
          exact AW.weak _ (by exact (And.intro rfl (And.intro rfl (And.intro rfl (And.intro rfl trivial))))) Kj7
      · have hf := (if_pos hc).symm.trans hf
        refine AW.bipush (v := (-7 : Int32)) dX12_set_52 (by decide) ?_
        obtain rfl := Option.some.inj hf
        exact AW.iret (st := []) dX12_set_54 rfl hK
    clear hf; have hf := gj4; clear gj4
    refine AW.if_ne (tgt := 25) dX12_set_12 (by decide) (fun hc => ?_) (fun hc => ?_)
    · have hf := (if_neg hc).symm.trans hf
      refine AW.iload_n dX12_set_25 rfl ?_
      refine AW.iconst (v := (1 : Int32)) dX12_set_26 (by decide) ?_
      refine AW.icmp_ne (tgt := 44) dX12_set_27 (by decide) (fun hc => ?_) (fun hc => ?_)
      · have hf := (if_neg hc).symm.trans hf
        refine AW.iconst (v := (0 : Int32)) dX12_set_44 (by decide) ?_
        obtain rfl := Option.some.inj hf
        exact AW.weak _ (by exact (And.intro rfl (And.intro rfl (And.intro rfl (And.intro rfl trivial))))) Kj4
      · have hf := (if_pos hc).symm.trans hf
        refine AW.iload_n dX12_set_30 rfl ?_
        refine AW.iconst (v := (0 : Int32)) dX12_set_31 (by decide) ?_
        refine AW.bipush (v := (9 : Int32)) dX12_set_32 (by decide) ?_
        obtain ⟨v2, gv2, hf⟩ := ob_split hf
        refine TW.invs (as := [.int p3, .int (0 : Int32), .int (9 : Int32)]) (rest := []) stX12_133 dX12_set_34 rfl rfl (Nat.le_of_ble_eq_true rfl) (c_X12_in hs gv2 ?_)
        show AW G mX12_set (d + 2) 0 0 K 37 [some (.ref 89), some (.int p1), some (.int p2), some (.int p3), none, none] [.int v2] (I, J, ρ)
        refine AW.if_eq (tgt := 44) dX12_set_37 (by decide) (fun hc => ?_) (fun hc => ?_)
        · have hf := (if_pos hc).symm.trans hf
          refine AW.iconst (v := (0 : Int32)) dX12_set_44 (by decide) ?_
          obtain rfl := Option.some.inj hf
          exact AW.weak _ (by exact (And.intro rfl (And.intro rfl (And.intro rfl (And.intro rfl trivial))))) Kj4
        · have hf := (if_neg hc).symm.trans hf
          refine AW.iconst (v := (1 : Int32)) dX12_set_40 (by decide) ?_
          refine AW.goto (tgt := 45) dX12_set_41 (by decide) ?_
          obtain rfl := Option.some.inj hf
          exact AW.weak _ (by exact (And.intro rfl (And.intro rfl (And.intro rfl (And.intro rfl trivial))))) Kj4
    · have hf := (if_pos hc).symm.trans hf
      refine AW.iload_n dX12_set_15 rfl ?_
      refine AW.iconst (v := (1 : Int32)) dX12_set_16 (by decide) ?_
      refine AW.bipush (v := (99 : Int32)) dX12_set_17 (by decide) ?_
      obtain ⟨v3, gv3, hf⟩ := ob_split hf
      refine TW.invs (as := [.int p3, .int (1 : Int32), .int (99 : Int32)]) (rest := []) stX12_133 dX12_set_19 rfl rfl (Nat.le_of_ble_eq_true rfl) (c_X12_in hs gv3 ?_)
      show AW G mX12_set (d + 2) 0 0 K 22 [some (.ref 89), some (.int p1), some (.int p2), some (.int p3), none, none] [.int v3] (I, J, ρ)
      refine AW.goto (tgt := 45) dX12_set_22 (by decide) ?_
      obtain rfl := Option.some.inj hf
      exact AW.weak _ (by exact (And.intro rfl (And.intro rfl (And.intro rfl (And.intro rfl trivial))))) Kj4
  · have hf := (if_pos hc).symm.trans hf
    refine AW.bipush (v := (-5 : Int32)) dX12_set_8 (by decide) ?_
    obtain rfl := Option.some.inj hf
    exact AW.iret (st := []) dX12_set_10 rfl hK
def f_X12_boatTold (N : Nat) (ρ : Rh) (I : Nat → Nat → Int32) (J : Nat → Nat → Int64) (p1 : Int32) : Option (Int32) := (if p1 = (0 : Int32) then some (I 89 3) else (if p1 = (1 : Int32) then some (I 89 4) else (if p1 = (2 : Int32) then some (I 89 5) else (if p1 = (3 : Int32) then some (I 89 6) else (if p1 = (4 : Int32) then some (I 89 0) else (if p1 = (5 : Int32) then some (I 89 9) else (if p1 = (6 : Int32) then some (I 89 17) else (if p1 = (7 : Int32) then some (I 89 18) else (if p1 = (8 : Int32) then some (I 89 14) else some (-2 : Int32))))))))))
theorem c_X12_boatTold {G : Gd} {d N : Nat} {K : Ah → Option Value → Prop} {ρ : Rh} {I : Nat → Nat → Int32} {J : Nat → Nat → Int64} {p1 : Int32} {o : Int32} (hs : Sh ρ) (hf : f_X12_boatTold N ρ I J p1 = some o) (hK : K (I, J, ρ) (some (.int o))) : AM G d 0 0 mX12_boatTold [.ref 89, .int p1] (I, J, ρ) K := by
  unfold f_X12_boatTold at hf
  refine AM.intro okX12_boatTold.2.2.2.1 (Nat.le_of_ble_eq_true rfl) [some (.ref 89), some (.int p1)] rfl ?_
  refine AW.iload_n dX12_boatTold_0 rfl ?_
  by_cases hc0 : p1 = (0 : Int32)
  · have hf := (if_pos hc0).symm.trans hf
    refine AW.swIn (tgt := 52) dX12_boatTold_1 (by rw [hc0]; decide) (by rw [hc0]; decide) (by rw [hc0]; rfl) (by decide) ?_
    refine AW.aload_n dX12_boatTold_52 rfl ?_
    refine TW.getI (x := (I 89 3)) fX12_16_12 hs.k89 rfl dX12_boatTold_53 ?_
    obtain rfl := Option.some.inj hf
    exact AW.iret (st := []) dX12_boatTold_56 rfl hK
  have hf := (if_neg hc0).symm.trans hf
  by_cases hc1 : p1 = (1 : Int32)
  · have hf := (if_pos hc1).symm.trans hf
    refine AW.swIn (tgt := 57) dX12_boatTold_1 (by rw [hc1]; decide) (by rw [hc1]; decide) (by rw [hc1]; rfl) (by decide) ?_
    refine AW.aload_n dX12_boatTold_57 rfl ?_
    refine TW.getI (x := (I 89 4)) fX12_20_12 hs.k89 rfl dX12_boatTold_58 ?_
    obtain rfl := Option.some.inj hf
    exact AW.iret (st := []) dX12_boatTold_61 rfl hK
  have hf := (if_neg hc1).symm.trans hf
  by_cases hc2 : p1 = (2 : Int32)
  · have hf := (if_pos hc2).symm.trans hf
    refine AW.swIn (tgt := 62) dX12_boatTold_1 (by rw [hc2]; decide) (by rw [hc2]; decide) (by rw [hc2]; rfl) (by decide) ?_
    refine AW.aload_n dX12_boatTold_62 rfl ?_
    refine TW.getI (x := (I 89 5)) fX12_23_12 hs.k89 rfl dX12_boatTold_63 ?_
    obtain rfl := Option.some.inj hf
    exact AW.iret (st := []) dX12_boatTold_66 rfl hK
  have hf := (if_neg hc2).symm.trans hf
  by_cases hc3 : p1 = (3 : Int32)
  · have hf := (if_pos hc3).symm.trans hf
    refine AW.swIn (tgt := 67) dX12_boatTold_1 (by rw [hc3]; decide) (by rw [hc3]; decide) (by rw [hc3]; rfl) (by decide) ?_
    refine AW.aload_n dX12_boatTold_67 rfl ?_
    refine TW.getI (x := (I 89 6)) fX12_26_12 hs.k89 rfl dX12_boatTold_68 ?_
    obtain rfl := Option.some.inj hf
    exact AW.iret (st := []) dX12_boatTold_71 rfl hK
  have hf := (if_neg hc3).symm.trans hf
  by_cases hc4 : p1 = (4 : Int32)
  · have hf := (if_pos hc4).symm.trans hf
    refine AW.swIn (tgt := 72) dX12_boatTold_1 (by rw [hc4]; decide) (by rw [hc4]; decide) (by rw [hc4]; rfl) (by decide) ?_
    refine AW.aload_n dX12_boatTold_72 rfl ?_
    refine TW.getI (x := (I 89 0)) fX12_130_12 hs.k89 rfl dX12_boatTold_73 ?_
    obtain rfl := Option.some.inj hf
    exact AW.iret (st := []) dX12_boatTold_76 rfl hK
  have hf := (if_neg hc4).symm.trans hf
  by_cases hc5 : p1 = (5 : Int32)
  · have hf := (if_pos hc5).symm.trans hf
    refine AW.swIn (tgt := 77) dX12_boatTold_1 (by rw [hc5]; decide) (by rw [hc5]; decide) (by rw [hc5]; rfl) (by decide) ?_
    refine AW.aload_n dX12_boatTold_77 rfl ?_
    refine TW.getI (x := (I 89 9)) fX12_137_12 hs.k89 rfl dX12_boatTold_78 ?_
    obtain rfl := Option.some.inj hf
    exact AW.iret (st := []) dX12_boatTold_81 rfl hK
  have hf := (if_neg hc5).symm.trans hf
  by_cases hc6 : p1 = (6 : Int32)
  · have hf := (if_pos hc6).symm.trans hf
    refine AW.swIn (tgt := 82) dX12_boatTold_1 (by rw [hc6]; decide) (by rw [hc6]; decide) (by rw [hc6]; rfl) (by decide) ?_
    refine AW.aload_n dX12_boatTold_82 rfl ?_
    refine TW.getI (x := (I 89 17)) fX12_53_12 hs.k89 rfl dX12_boatTold_83 ?_
    obtain rfl := Option.some.inj hf
    exact AW.iret (st := []) dX12_boatTold_86 rfl hK
  have hf := (if_neg hc6).symm.trans hf
  by_cases hc7 : p1 = (7 : Int32)
  · have hf := (if_pos hc7).symm.trans hf
    refine AW.swIn (tgt := 87) dX12_boatTold_1 (by rw [hc7]; decide) (by rw [hc7]; decide) (by rw [hc7]; rfl) (by decide) ?_
    refine AW.aload_n dX12_boatTold_87 rfl ?_
    refine TW.getI (x := (I 89 18)) fX12_148_12 hs.k89 rfl dX12_boatTold_88 ?_
    obtain rfl := Option.some.inj hf
    exact AW.iret (st := []) dX12_boatTold_91 rfl hK
  have hf := (if_neg hc7).symm.trans hf
  by_cases hc8 : p1 = (8 : Int32)
  · have hf := (if_pos hc8).symm.trans hf
    refine AW.swIn (tgt := 92) dX12_boatTold_1 (by rw [hc8]; decide) (by rw [hc8]; decide) (by rw [hc8]; rfl) (by decide) ?_
    refine AW.aload_n dX12_boatTold_92 rfl ?_
    refine TW.getI (x := (I 89 14)) fX12_151_12 hs.k89 rfl dX12_boatTold_93 ?_
    obtain rfl := Option.some.inj hf
    exact AW.iret (st := []) dX12_boatTold_96 rfl hK
  have hf := (if_neg hc8).symm.trans hf
  have KD : AW G mX12_boatTold d 0 0 K 97 [some (.ref 89), some (.int p1)] [] (I, J, ρ) := by
    refine AW.bipush (v := (-2 : Int32)) dX12_boatTold_97 (by decide) ?_
    obtain rfl := Option.some.inj hf
    exact AW.iret (st := []) dX12_boatTold_99 rfl hK
  have hc0 : ¬ (p1).toInt = 0 := fun q => hc0 (Int32.toInt_inj.mp q)
  have hc1 : ¬ (p1).toInt = 1 := fun q => hc1 (Int32.toInt_inj.mp q)
  have hc2 : ¬ (p1).toInt = 2 := fun q => hc2 (Int32.toInt_inj.mp q)
  have hc3 : ¬ (p1).toInt = 3 := fun q => hc3 (Int32.toInt_inj.mp q)
  have hc4 : ¬ (p1).toInt = 4 := fun q => hc4 (Int32.toInt_inj.mp q)
  have hc5 : ¬ (p1).toInt = 5 := fun q => hc5 (Int32.toInt_inj.mp q)
  have hc6 : ¬ (p1).toInt = 6 := fun q => hc6 (Int32.toInt_inj.mp q)
  have hc7 : ¬ (p1).toInt = 7 := fun q => hc7 (Int32.toInt_inj.mp q)
  have hc8 : ¬ (p1).toInt = 8 := fun q => hc8 (Int32.toInt_inj.mp q)
  exact AW.swOut dX12_boatTold_1 (by omega) (by decide) KD
def f_X12_boat (N : Nat) (ρ : Rh) (I : Nat → Nat → Int32) (J : Nat → Nat → Int64) (p1 : Int32) (p2 : Int32) : Option ((Nat → Nat → Int32) × Int32) := (((if (p1 = (0 : Int32)) then (Option.bind (f_X12_in N ρ I J p2 (1 : Int32) (12 : Int32)) fun v4 => some v4) else (if (p1 = (1 : Int32)) then (Option.bind (f_X12_in N ρ I J p2 (0 : Int32) (999 : Int32)) fun v3 => some v3) else (if (p1 = (2 : Int32)) then (Option.bind (f_X12_in N ρ I J p2 (0 : Int32) (99 : Int32)) fun v2 => some v2) else (if (p1 = (3 : Int32)) then (Option.bind (f_X12_in N ρ I J p2 (0 : Int32) (9999 : Int32)) fun v1 => (if (v1 = (0 : Int32)) then some (0 : Int32) else some (1 : Int32))) else some (0 : Int32))))) : Option (Int32)).bind fun j5 => (if (j5 = (0 : Int32)) then some (I, (-2 : Int32)) else (Option.bind (f_X12_boatTold N ρ I J p1) fun v6 => (((if (p1 = (0 : Int32)) then some p2 else some (I 89 3)) : Option (Int32)).bind fun j7 => (((if (p1 = (1 : Int32)) then some p2 else some (I 89 4)) : Option (Int32)).bind fun j8 => (((if (p1 = (2 : Int32)) then some p2 else some (I 89 5)) : Option (Int32)).bind fun j9 => (((if (p1 = (3 : Int32)) then some p2 else some (I 89 6)) : Option (Int32)).bind fun j10 => some ((u2 (u2 (u2 (u2 I 89 3 j7) 89 4 j8) 89 5 j9) 89 6 j10), v6))))))))
theorem c_X12_boat {G : Gd} {d N : Nat} {K : Ah → Option Value → Prop} {ρ : Rh} {I : Nat → Nat → Int32} {J : Nat → Nat → Int64} {p1 : Int32} {p2 : Int32} {o : (Nat → Nat → Int32) × Int32} (hs : Sh ρ) (hf : f_X12_boat N ρ I J p1 p2 = some o) (hK : K (o.1, J, ρ) (some (.int o.2))) : AM G (d + 1) 0 0 mX12_boat [.ref 89, .int p1, .int p2] (I, J, ρ) K := by
  unfold f_X12_boat at hf
  refine AM.intro okX12_boat.2.2.2.1 (Nat.le_of_ble_eq_true rfl) [some (.ref 89), some (.int p1), some (.int p2), none, none] rfl ?_
  refine AW.iload_n dX12_boat_0 rfl ?_
  obtain ⟨j5, gj5, hf⟩ := ob_split hf
  have Kj5 : AW G mX12_boat (d + 1) 0 0 K 66 [some (.ref 89), some (.int p1), some (.int p2), none, none] [.int j5] (I, J, ρ) := by
    refine AW.istore_n (ls' := [some (.ref 89), some (.int p1), some (.int p2), some (.int j5), none]) dX12_boat_66 (Nat.le_of_ble_eq_true rfl) rfl ?_
    refine AW.iload_n dX12_boat_67 rfl ?_
    refine AW.if_ne (tgt := 74) dX12_boat_68 (by decide) (fun hc => ?_) (fun hc => ?_)
    · have hf := (if_neg hc).symm.trans hf
      refine AW.aload_n dX12_boat_74 rfl ?_
      refine AW.iload_n dX12_boat_75 rfl ?_
      obtain ⟨v6, gv6, hf⟩ := ob_split hf
      refine TW.invv (as := [.int p1]) (rest := []) viX12_144_12 hs.k89 dX12_boat_76 rfl rfl (Nat.le_of_ble_eq_true rfl) (c_X12_boatTold hs gv6 ?_)
      show AW G mX12_boat (d + 1) 0 0 K 79 [some (.ref 89), some (.int p1), some (.int p2), some (.int j5), none] [.int v6] (I, J, ρ)
      refine AW.istore (ls' := [some (.ref 89), some (.int p1), some (.int p2), some (.int j5), some (.int v6)]) dX12_boat_79 (Nat.le_of_ble_eq_true rfl) rfl ?_
      refine AW.aload_n dX12_boat_81 rfl ?_
      refine AW.iload_n dX12_boat_82 rfl ?_
      obtain ⟨j7, gj7, hf⟩ := ob_split hf
      have Kj7 : AW G mX12_boat (d + 1) 0 0 K 94 [some (.ref 89), some (.int p1), some (.int p2), none, some (.int v6)] [.int j7, .ref 89] (I, J, ρ) := by
        refine TW.putI fX12_16_12 hs.k89 (Or.inl rfl) dX12_boat_94 ?_
        show AW G mX12_boat (d + 1) 0 0 K 97 [some (.ref 89), some (.int p1), some (.int p2), none, some (.int v6)] [] ((u2 I 89 3 j7), J, ρ)
        refine AW.aload_n dX12_boat_97 rfl ?_
        refine AW.iload_n dX12_boat_98 rfl ?_
        refine AW.iconst (v := (1 : Int32)) dX12_boat_99 (by decide) ?_
        obtain ⟨j8, gj8, hf⟩ := ob_split hf
        have Kj8 : AW G mX12_boat (d + 1) 0 0 K 111 [some (.ref 89), some (.int p1), some (.int p2), none, some (.int v6)] [.int j8, .ref 89] ((u2 I 89 3 j7), J, ρ) := by
          refine TW.putI fX12_20_12 hs.k89 (Or.inl rfl) dX12_boat_111 ?_
          show AW G mX12_boat (d + 1) 0 0 K 114 [some (.ref 89), some (.int p1), some (.int p2), none, some (.int v6)] [] ((u2 (u2 I 89 3 j7) 89 4 j8), J, ρ)
          refine AW.aload_n dX12_boat_114 rfl ?_
          refine AW.iload_n dX12_boat_115 rfl ?_
          refine AW.iconst (v := (2 : Int32)) dX12_boat_116 (by decide) ?_
          obtain ⟨j9, gj9, hf⟩ := ob_split hf
          have Kj9 : AW G mX12_boat (d + 1) 0 0 K 128 [some (.ref 89), some (.int p1), some (.int p2), none, some (.int v6)] [.int j9, .ref 89] ((u2 (u2 I 89 3 j7) 89 4 j8), J, ρ) := by
            refine TW.putI fX12_23_12 hs.k89 (Or.inl rfl) dX12_boat_128 ?_
            show AW G mX12_boat (d + 1) 0 0 K 131 [some (.ref 89), some (.int p1), some (.int p2), none, some (.int v6)] [] ((u2 (u2 (u2 I 89 3 j7) 89 4 j8) 89 5 j9), J, ρ)
            refine AW.aload_n dX12_boat_131 rfl ?_
            refine AW.iload_n dX12_boat_132 rfl ?_
            refine AW.iconst (v := (3 : Int32)) dX12_boat_133 (by decide) ?_
            obtain ⟨j10, gj10, hf⟩ := ob_split hf
            have Kj10 : AW G mX12_boat (d + 1) 0 0 K 145 [none, none, none, none, some (.int v6)] [.int j10, .ref 89] ((u2 (u2 (u2 I 89 3 j7) 89 4 j8) 89 5 j9), J, ρ) := by
              refine TW.putI fX12_26_12 hs.k89 (Or.inl rfl) dX12_boat_145 ?_
              show AW G mX12_boat (d + 1) 0 0 K 148 [none, none, none, none, some (.int v6)] [] ((u2 (u2 (u2 (u2 I 89 3 j7) 89 4 j8) 89 5 j9) 89 6 j10), J, ρ)
              refine AW.iload dX12_boat_148 rfl ?_
              obtain rfl := Option.some.inj hf
              exact AW.iret (st := []) dX12_boat_150 rfl hK
            clear hf; have hf := gj10; clear gj10
            refine AW.icmp_ne (tgt := 141) dX12_boat_134 (by decide) (fun hc => ?_) (fun hc => ?_)
            · have hf := (if_neg hc).symm.trans hf
              refine AW.aload_n dX12_boat_141 rfl ?_
              refine TW.getI (x := (I 89 6)) fX12_26_12 hs.k89 ((u2_nk (by decide)).trans ((u2_nk (by decide)).trans (u2_nk (by decide)))) dX12_boat_142 ?_
              obtain rfl := Option.some.inj hf
              exact AW.weak _ (by exact (And.intro rfl trivial)) Kj10
            · have hf := (if_pos hc).symm.trans hf
              refine AW.iload_n dX12_boat_137 rfl ?_
              refine AW.goto (tgt := 145) dX12_boat_138 (by decide) ?_
              obtain rfl := Option.some.inj hf
              exact AW.weak _ (by exact (And.intro rfl trivial)) Kj10
          clear hf; have hf := gj9; clear gj9
          refine AW.icmp_ne (tgt := 124) dX12_boat_117 (by decide) (fun hc => ?_) (fun hc => ?_)
          · have hf := (if_neg hc).symm.trans hf
            refine AW.aload_n dX12_boat_124 rfl ?_
            refine TW.getI (x := (I 89 5)) fX12_23_12 hs.k89 ((u2_nk (by decide)).trans (u2_nk (by decide))) dX12_boat_125 ?_
            obtain rfl := Option.some.inj hf
            exact AW.weak _ (by exact (And.intro rfl (And.intro rfl (And.intro rfl (And.intro rfl trivial))))) Kj9
          · have hf := (if_pos hc).symm.trans hf
            refine AW.iload_n dX12_boat_120 rfl ?_
            refine AW.goto (tgt := 128) dX12_boat_121 (by decide) ?_
            obtain rfl := Option.some.inj hf
            exact AW.weak _ (by exact (And.intro rfl (And.intro rfl (And.intro rfl (And.intro rfl trivial))))) Kj9
        clear hf; have hf := gj8; clear gj8
        refine AW.icmp_ne (tgt := 107) dX12_boat_100 (by decide) (fun hc => ?_) (fun hc => ?_)
        · have hf := (if_neg hc).symm.trans hf
          refine AW.aload_n dX12_boat_107 rfl ?_
          refine TW.getI (x := (I 89 4)) fX12_20_12 hs.k89 (u2_nk (by decide)) dX12_boat_108 ?_
          obtain rfl := Option.some.inj hf
          exact AW.weak _ (by exact (And.intro rfl (And.intro rfl (And.intro rfl (And.intro rfl trivial))))) Kj8
        · have hf := (if_pos hc).symm.trans hf
          refine AW.iload_n dX12_boat_103 rfl ?_
          refine AW.goto (tgt := 111) dX12_boat_104 (by decide) ?_
          obtain rfl := Option.some.inj hf
          exact AW.weak _ (by exact (And.intro rfl (And.intro rfl (And.intro rfl (And.intro rfl trivial))))) Kj8
      clear hf; have hf := gj7; clear gj7
      refine AW.if_ne (tgt := 90) dX12_boat_83 (by decide) (fun hc => ?_) (fun hc => ?_)
      · have hf := (if_neg hc).symm.trans hf
        refine AW.aload_n dX12_boat_90 rfl ?_
        refine TW.getI (x := (I 89 3)) fX12_16_12 hs.k89 rfl dX12_boat_91 ?_
        obtain rfl := Option.some.inj hf
        exact AW.weak _ (by exact (And.intro rfl (And.intro rfl (And.intro rfl (And.intro rfl trivial))))) Kj7
      · have hf := (if_pos hc).symm.trans hf
        refine AW.iload_n dX12_boat_86 rfl ?_
        refine AW.goto (tgt := 94) dX12_boat_87 (by decide) ?_
        obtain rfl := Option.some.inj hf
        exact AW.weak _ (by exact (And.intro rfl (And.intro rfl (And.intro rfl (And.intro rfl trivial))))) Kj7
    · have hf := (if_pos hc).symm.trans hf
      refine AW.bipush (v := (-2 : Int32)) dX12_boat_71 (by decide) ?_
      obtain rfl := Option.some.inj hf
      exact AW.iret (st := []) dX12_boat_73 rfl hK
  clear hf; have hf := gj5; clear gj5
  refine AW.if_ne (tgt := 14) dX12_boat_1 (by decide) (fun hc => ?_) (fun hc => ?_)
  · have hf := (if_neg hc).symm.trans hf
    refine AW.iload_n dX12_boat_14 rfl ?_
    refine AW.iconst (v := (1 : Int32)) dX12_boat_15 (by decide) ?_
    refine AW.icmp_ne (tgt := 30) dX12_boat_16 (by decide) (fun hc => ?_) (fun hc => ?_)
    · have hf := (if_neg hc).symm.trans hf
      refine AW.iload_n dX12_boat_30 rfl ?_
      refine AW.iconst (v := (2 : Int32)) dX12_boat_31 (by decide) ?_
      refine AW.icmp_ne (tgt := 45) dX12_boat_32 (by decide) (fun hc => ?_) (fun hc => ?_)
      · have hf := (if_neg hc).symm.trans hf
        refine AW.iload_n dX12_boat_45 rfl ?_
        refine AW.iconst (v := (3 : Int32)) dX12_boat_46 (by decide) ?_
        refine AW.icmp_ne (tgt := 65) dX12_boat_47 (by decide) (fun hc => ?_) (fun hc => ?_)
        · have hf := (if_neg hc).symm.trans hf
          refine AW.iconst (v := (0 : Int32)) dX12_boat_65 (by decide) ?_
          obtain rfl := Option.some.inj hf
          exact AW.weak _ (by exact (And.intro rfl (And.intro rfl (And.intro rfl trivial)))) Kj5
        · have hf := (if_pos hc).symm.trans hf
          refine AW.iload_n dX12_boat_50 rfl ?_
          refine AW.iconst (v := (0 : Int32)) dX12_boat_51 (by decide) ?_
          refine AW.sipush (v := (9999 : Int32)) dX12_boat_52 (by decide) ?_
          obtain ⟨v1, gv1, hf⟩ := ob_split hf
          refine TW.invs (as := [.int p2, .int (0 : Int32), .int (9999 : Int32)]) (rest := []) stX12_133 dX12_boat_55 rfl rfl (Nat.le_of_ble_eq_true rfl) (c_X12_in hs gv1 ?_)
          show AW G mX12_boat (d + 1) 0 0 K 58 [some (.ref 89), some (.int p1), some (.int p2), none, none] [.int v1] (I, J, ρ)
          refine AW.if_eq (tgt := 65) dX12_boat_58 (by decide) (fun hc => ?_) (fun hc => ?_)
          · have hf := (if_pos hc).symm.trans hf
            refine AW.iconst (v := (0 : Int32)) dX12_boat_65 (by decide) ?_
            obtain rfl := Option.some.inj hf
            exact AW.weak _ (by exact (And.intro rfl (And.intro rfl (And.intro rfl trivial)))) Kj5
          · have hf := (if_neg hc).symm.trans hf
            refine AW.iconst (v := (1 : Int32)) dX12_boat_61 (by decide) ?_
            refine AW.goto (tgt := 66) dX12_boat_62 (by decide) ?_
            obtain rfl := Option.some.inj hf
            exact AW.weak _ (by exact (And.intro rfl (And.intro rfl (And.intro rfl trivial)))) Kj5
      · have hf := (if_pos hc).symm.trans hf
        refine AW.iload_n dX12_boat_35 rfl ?_
        refine AW.iconst (v := (0 : Int32)) dX12_boat_36 (by decide) ?_
        refine AW.bipush (v := (99 : Int32)) dX12_boat_37 (by decide) ?_
        obtain ⟨v2, gv2, hf⟩ := ob_split hf
        refine TW.invs (as := [.int p2, .int (0 : Int32), .int (99 : Int32)]) (rest := []) stX12_133 dX12_boat_39 rfl rfl (Nat.le_of_ble_eq_true rfl) (c_X12_in hs gv2 ?_)
        show AW G mX12_boat (d + 1) 0 0 K 42 [some (.ref 89), some (.int p1), some (.int p2), none, none] [.int v2] (I, J, ρ)
        refine AW.goto (tgt := 66) dX12_boat_42 (by decide) ?_
        obtain rfl := Option.some.inj hf
        exact AW.weak _ (by exact (And.intro rfl (And.intro rfl (And.intro rfl trivial)))) Kj5
    · have hf := (if_pos hc).symm.trans hf
      refine AW.iload_n dX12_boat_19 rfl ?_
      refine AW.iconst (v := (0 : Int32)) dX12_boat_20 (by decide) ?_
      refine AW.sipush (v := (999 : Int32)) dX12_boat_21 (by decide) ?_
      obtain ⟨v3, gv3, hf⟩ := ob_split hf
      refine TW.invs (as := [.int p2, .int (0 : Int32), .int (999 : Int32)]) (rest := []) stX12_133 dX12_boat_24 rfl rfl (Nat.le_of_ble_eq_true rfl) (c_X12_in hs gv3 ?_)
      show AW G mX12_boat (d + 1) 0 0 K 27 [some (.ref 89), some (.int p1), some (.int p2), none, none] [.int v3] (I, J, ρ)
      refine AW.goto (tgt := 66) dX12_boat_27 (by decide) ?_
      obtain rfl := Option.some.inj hf
      exact AW.weak _ (by exact (And.intro rfl (And.intro rfl (And.intro rfl trivial)))) Kj5
  · have hf := (if_pos hc).symm.trans hf
    refine AW.iload_n dX12_boat_4 rfl ?_
    refine AW.iconst (v := (1 : Int32)) dX12_boat_5 (by decide) ?_
    refine AW.bipush (v := (12 : Int32)) dX12_boat_6 (by decide) ?_
    obtain ⟨v4, gv4, hf⟩ := ob_split hf
    refine TW.invs (as := [.int p2, .int (1 : Int32), .int (12 : Int32)]) (rest := []) stX12_133 dX12_boat_8 rfl rfl (Nat.le_of_ble_eq_true rfl) (c_X12_in hs gv4 ?_)
    show AW G mX12_boat (d + 1) 0 0 K 11 [some (.ref 89), some (.int p1), some (.int p2), none, none] [.int v4] (I, J, ρ)
    refine AW.goto (tgt := 66) dX12_boat_11 (by decide) ?_
    obtain rfl := Option.some.inj hf
    exact AW.weak _ (by exact (And.intro rfl (And.intro rfl (And.intro rfl trivial)))) Kj5
def f_X12_day (N : Nat) (ρ : Rh) (I : Nat → Nat → Int32) (J : Nat → Nat → Int64) (p1 : Int32) (p2 : Int32) (p3 : Int32) : Option ((Nat → Nat → Int32) × Int32) := (Option.bind (f_X12_in N ρ I J p1 (0 : Int32) (11 : Int32)) fun v1 => (if (v1 = (0 : Int32)) then some (I, (-5 : Int32)) else (((if (p2 = (0 : Int32)) then (Option.bind (f_X12_in N ρ I J p3 (0 : Int32) (9 : Int32)) fun v3 => some v3) else (if (p2 = (1 : Int32)) then (Option.bind (f_X12_in N ρ I J p3 (0 : Int32) (50 : Int32)) fun v2 => (if (v2 = (0 : Int32)) then some (0 : Int32) else some (1 : Int32))) else some (0 : Int32))) : Option (Int32)).bind fun j4 => (if (j4 = (0 : Int32)) then some (I, (-7 : Int32)) else (((if (p2 = (0 : Int32)) then (if ¬ (p1 < 0 ∨ 12 ≤ tn p1) then some (I 92 (tn p1)) else none) else (if ¬ (p1 < 0 ∨ 12 ≤ tn p1) then some (I 93 (tn p1)) else none)) : Option (Int32)).bind fun j7 => (((if (p2 = (0 : Int32)) then (if ¬ (p1 < 0 ∨ 12 ≤ tn p1) then some (u2 I 92 (tn p1) p3) else none) else (if ¬ (p1 < 0 ∨ 12 ≤ tn p1) then some (u2 I 93 (tn p1) p3) else none)) : Option ((Nat → Nat → Int32))).bind fun j10 => some (j10, j7)))))))
theorem c_X12_day {G : Gd} {d N : Nat} {K : Ah → Option Value → Prop} {ρ : Rh} {I : Nat → Nat → Int32} {J : Nat → Nat → Int64} {p1 : Int32} {p2 : Int32} {p3 : Int32} {o : (Nat → Nat → Int32) × Int32} (hs : Sh ρ) (hf : f_X12_day N ρ I J p1 p2 p3 = some o) (hK : K (o.1, J, ρ) (some (.int o.2))) : AM G (d + 1) 0 0 mX12_day [.ref 89, .int p1, .int p2, .int p3] (I, J, ρ) K := by
  unfold f_X12_day at hf
  refine AM.intro okX12_day.2.2.2.1 (Nat.le_of_ble_eq_true rfl) [some (.ref 89), some (.int p1), some (.int p2), some (.int p3), none, none] rfl ?_
  refine AW.iload_n dX12_day_0 rfl ?_
  refine AW.iconst (v := (0 : Int32)) dX12_day_1 (by decide) ?_
  refine AW.bipush (v := (11 : Int32)) dX12_day_2 (by decide) ?_
  obtain ⟨v1, gv1, hf⟩ := ob_split hf
  refine TW.invs (as := [.int p1, .int (0 : Int32), .int (11 : Int32)]) (rest := []) stX12_133 dX12_day_4 rfl rfl (Nat.le_of_ble_eq_true rfl) (c_X12_in hs gv1 ?_)
  show AW G mX12_day (d + 1) 0 0 K 7 [some (.ref 89), some (.int p1), some (.int p2), some (.int p3), none, none] [.int v1] (I, J, ρ)
  refine AW.if_ne (tgt := 13) dX12_day_7 (by decide) (fun hc => ?_) (fun hc => ?_)
  · have hf := (if_neg hc).symm.trans hf
    refine AW.iload_n dX12_day_13 rfl ?_
    obtain ⟨j4, gj4, hf⟩ := ob_split hf
    have Kj4 : AW G mX12_day (d + 1) 0 0 K 47 [some (.ref 89), some (.int p1), some (.int p2), some (.int p3), none, none] [.int j4] (I, J, ρ) := by
      refine AW.istore (ls' := [some (.ref 89), some (.int p1), some (.int p2), some (.int p3), some (.int j4), none]) dX12_day_47 (Nat.le_of_ble_eq_true rfl) rfl ?_
      refine AW.iload dX12_day_49 rfl ?_
      refine AW.if_ne (tgt := 57) dX12_day_51 (by decide) (fun hc => ?_) (fun hc => ?_)
      · have hf := (if_neg hc).symm.trans hf
        refine AW.iload_n dX12_day_57 rfl ?_
        obtain ⟨j7, gj7, hf⟩ := ob_split hf
        have Kj7 : AW G mX12_day (d + 1) 0 0 K 76 [some (.ref 89), some (.int p1), some (.int p2), some (.int p3), none, none] [.int j7] (I, J, ρ) := by
          refine AW.istore (ls' := [some (.ref 89), some (.int p1), some (.int p2), some (.int p3), none, some (.int j7)]) dX12_day_76 (Nat.le_of_ble_eq_true rfl) rfl ?_
          refine AW.iload_n dX12_day_78 rfl ?_
          obtain ⟨j10, gj10, hf⟩ := ob_split hf
          have Kj10 : AW G mX12_day (d + 1) 0 0 K 99 [none, none, none, none, none, some (.int j7)] [] (j10, J, ρ) := by
            refine AW.iload dX12_day_99 rfl ?_
            obtain rfl := Option.some.inj hf
            exact AW.iret (st := []) dX12_day_101 rfl hK
          clear hf; have hf := gj10; clear gj10
          refine AW.if_ne (tgt := 92) dX12_day_79 (by decide) (fun hc => ?_) (fun hc => ?_)
          · have hf := (if_neg hc).symm.trans hf
            refine AW.aload_n dX12_day_92 rfl ?_
            refine TW.getR fX12_32_12 hs.k89 (rf_some hs.r89_8) dX12_day_93 ?_
            refine AW.iload_n dX12_day_96 rfl ?_
            refine AW.iload_n dX12_day_97 rfl ?_
            obtain ⟨h8, hf⟩ := gd_split hf
            refine TW.iast hs.k93 h8 dX12_day_98 ?_
            show AW G mX12_day (d + 1) 0 0 K 99 [some (.ref 89), some (.int p1), some (.int p2), some (.int p3), none, some (.int j7)] [] ((u2 I 93 (tn p1) p3), J, ρ)
            obtain rfl := Option.some.inj hf
            exact AW.weak _ (by exact (And.intro rfl trivial)) Kj10
          · have hf := (if_pos hc).symm.trans hf
            refine AW.aload_n dX12_day_82 rfl ?_
            refine TW.getR fX12_29_12 hs.k89 (rf_some hs.r89_7) dX12_day_83 ?_
            refine AW.iload_n dX12_day_86 rfl ?_
            refine AW.iload_n dX12_day_87 rfl ?_
            obtain ⟨h9, hf⟩ := gd_split hf
            refine TW.iast hs.k92 h9 dX12_day_88 ?_
            show AW G mX12_day (d + 1) 0 0 K 89 [some (.ref 89), some (.int p1), some (.int p2), some (.int p3), none, some (.int j7)] [] ((u2 I 92 (tn p1) p3), J, ρ)
            refine AW.goto (tgt := 99) dX12_day_89 (by decide) ?_
            obtain rfl := Option.some.inj hf
            exact AW.weak _ (by exact (And.intro rfl trivial)) Kj10
        clear hf; have hf := gj7; clear gj7
        refine AW.if_ne (tgt := 70) dX12_day_58 (by decide) (fun hc => ?_) (fun hc => ?_)
        · have hf := (if_neg hc).symm.trans hf
          refine AW.aload_n dX12_day_70 rfl ?_
          refine TW.getR fX12_32_12 hs.k89 (rf_some hs.r89_8) dX12_day_71 ?_
          refine AW.iload_n dX12_day_74 rfl ?_
          obtain ⟨h5, hf⟩ := gd_split hf
          refine TW.iald (x := (I 93 (tn p1))) hs.k93 h5 rfl dX12_day_75 ?_
          obtain rfl := Option.some.inj hf
          exact AW.weak _ (by exact (And.intro rfl (And.intro rfl (And.intro rfl (And.intro rfl trivial))))) Kj7
        · have hf := (if_pos hc).symm.trans hf
          refine AW.aload_n dX12_day_61 rfl ?_
          refine TW.getR fX12_29_12 hs.k89 (rf_some hs.r89_7) dX12_day_62 ?_
          refine AW.iload_n dX12_day_65 rfl ?_
          obtain ⟨h6, hf⟩ := gd_split hf
          refine TW.iald (x := (I 92 (tn p1))) hs.k92 h6 rfl dX12_day_66 ?_
          refine AW.goto (tgt := 76) dX12_day_67 (by decide) ?_
          obtain rfl := Option.some.inj hf
          exact AW.weak _ (by exact (And.intro rfl (And.intro rfl (And.intro rfl (And.intro rfl trivial))))) Kj7
      · have hf := (if_pos hc).symm.trans hf
        refine AW.bipush (v := (-7 : Int32)) dX12_day_54 (by decide) ?_
        obtain rfl := Option.some.inj hf
        exact AW.iret (st := []) dX12_day_56 rfl hK
    clear hf; have hf := gj4; clear gj4
    refine AW.if_ne (tgt := 27) dX12_day_14 (by decide) (fun hc => ?_) (fun hc => ?_)
    · have hf := (if_neg hc).symm.trans hf
      refine AW.iload_n dX12_day_27 rfl ?_
      refine AW.iconst (v := (1 : Int32)) dX12_day_28 (by decide) ?_
      refine AW.icmp_ne (tgt := 46) dX12_day_29 (by decide) (fun hc => ?_) (fun hc => ?_)
      · have hf := (if_neg hc).symm.trans hf
        refine AW.iconst (v := (0 : Int32)) dX12_day_46 (by decide) ?_
        obtain rfl := Option.some.inj hf
        exact AW.weak _ (by exact (And.intro rfl (And.intro rfl (And.intro rfl (And.intro rfl trivial))))) Kj4
      · have hf := (if_pos hc).symm.trans hf
        refine AW.iload_n dX12_day_32 rfl ?_
        refine AW.iconst (v := (0 : Int32)) dX12_day_33 (by decide) ?_
        refine AW.bipush (v := (50 : Int32)) dX12_day_34 (by decide) ?_
        obtain ⟨v2, gv2, hf⟩ := ob_split hf
        refine TW.invs (as := [.int p3, .int (0 : Int32), .int (50 : Int32)]) (rest := []) stX12_133 dX12_day_36 rfl rfl (Nat.le_of_ble_eq_true rfl) (c_X12_in hs gv2 ?_)
        show AW G mX12_day (d + 1) 0 0 K 39 [some (.ref 89), some (.int p1), some (.int p2), some (.int p3), none, none] [.int v2] (I, J, ρ)
        refine AW.if_eq (tgt := 46) dX12_day_39 (by decide) (fun hc => ?_) (fun hc => ?_)
        · have hf := (if_pos hc).symm.trans hf
          refine AW.iconst (v := (0 : Int32)) dX12_day_46 (by decide) ?_
          obtain rfl := Option.some.inj hf
          exact AW.weak _ (by exact (And.intro rfl (And.intro rfl (And.intro rfl (And.intro rfl trivial))))) Kj4
        · have hf := (if_neg hc).symm.trans hf
          refine AW.iconst (v := (1 : Int32)) dX12_day_42 (by decide) ?_
          refine AW.goto (tgt := 47) dX12_day_43 (by decide) ?_
          obtain rfl := Option.some.inj hf
          exact AW.weak _ (by exact (And.intro rfl (And.intro rfl (And.intro rfl (And.intro rfl trivial))))) Kj4
    · have hf := (if_pos hc).symm.trans hf
      refine AW.iload_n dX12_day_17 rfl ?_
      refine AW.iconst (v := (0 : Int32)) dX12_day_18 (by decide) ?_
      refine AW.bipush (v := (9 : Int32)) dX12_day_19 (by decide) ?_
      obtain ⟨v3, gv3, hf⟩ := ob_split hf
      refine TW.invs (as := [.int p3, .int (0 : Int32), .int (9 : Int32)]) (rest := []) stX12_133 dX12_day_21 rfl rfl (Nat.le_of_ble_eq_true rfl) (c_X12_in hs gv3 ?_)
      show AW G mX12_day (d + 1) 0 0 K 24 [some (.ref 89), some (.int p1), some (.int p2), some (.int p3), none, none] [.int v3] (I, J, ρ)
      refine AW.goto (tgt := 47) dX12_day_24 (by decide) ?_
      obtain rfl := Option.some.inj hf
      exact AW.weak _ (by exact (And.intro rfl (And.intro rfl (And.intro rfl (And.intro rfl trivial))))) Kj4
  · have hf := (if_pos hc).symm.trans hf
    refine AW.bipush (v := (-5 : Int32)) dX12_day_10 (by decide) ?_
    obtain rfl := Option.some.inj hf
    exact AW.iret (st := []) dX12_day_12 rfl hK
def f_X12_rule_95 (N : Nat) (I : Nat → Nat → Int32) (J : Nat → Nat → Int64) (ρ : Rh) (p1 : Int32) (p2 : Int32) (p3 : Int32) : Nat → Int32 → Int32 → Option (Int32)
  | 0, _, _ => none
  | n + 1, i11, i12 => (if ((I 89 0) ≤ i12) then some i11 else (if (i11 = (0 : Int32)) then some i11 else (if (p1 = (4 : Int32)) then (if ¬ ((((40 : Int32) * p3) + i12) < 0 ∨ 160 ≤ tn (((40 : Int32) * p3) + i12)) then (Option.bind (f_X12_in N ρ I J (I 109 (tn (((40 : Int32) * p3) + i12))) (0 : Int32) (50 : Int32)) fun v14 => f_X12_rule_95 N I J ρ p1 p2 p3 n v14 (i12 + (1 : Int32))) else none) else some i11)))
theorem l_X12_rule_95 {G : Gd} {d N : Nat} {K : Ah → Option Value → Prop} {I : Nat → Nat → Int32} {J : Nat → Nat → Int64} {ρ : Rh} {p1 : Int32} {p2 : Int32} {p3 : Int32} (hs : Sh ρ) {o : Int32} : ∀ (n : Nat) (i11 : Int32) (i12 : Int32), f_X12_rule_95 N I J ρ p1 p2 p3 n i11 i12 = some o → AW G mX12_rule (d + 1) 0 0 K 140 [some (.ref 89), some (.int p1), some (.int p2), some (.int p3), some (.int o), none] [] (I, J, ρ) → AW G mX12_rule (d + 1) 0 0 K 95 [some (.ref 89), some (.int p1), some (.int p2), some (.int p3), some (.int i11), some (.int i12)] [] (I, J, ρ) := by
  intro n
  induction n with
  | zero => intro i11 i12 hf hE; rw [f_X12_rule_95.eq_1] at hf; cases hf
  | succ n ih =>
    intro i11 i12 hf hE
    rw [f_X12_rule_95.eq_2] at hf
    refine AW.iload dX12_rule_95 rfl ?_
    refine AW.aload_n dX12_rule_97 rfl ?_
    refine TW.getI (x := (I 89 0)) fX12_130_12 hs.k89 rfl dX12_rule_98 ?_
    refine AW.icmp_ge (tgt := 140) dX12_rule_101 (by decide) (fun hc => ?_) (fun hc => ?_)
    · have hf := (if_pos hc).symm.trans hf
      obtain rfl := Option.some.inj hf
      exact AW.weak _ (by exact (And.intro rfl (And.intro rfl (And.intro rfl (And.intro rfl (And.intro rfl trivial)))))) hE
    · have hf := (if_neg hc).symm.trans hf
      refine AW.iload dX12_rule_104 rfl ?_
      refine AW.if_eq (tgt := 140) dX12_rule_106 (by decide) (fun hc => ?_) (fun hc => ?_)
      · have hf := (if_pos hc).symm.trans hf
        obtain rfl := Option.some.inj hf
        exact AW.weak _ (by exact (And.intro rfl (And.intro rfl (And.intro rfl (And.intro rfl (And.intro rfl trivial)))))) hE
      · have hf := (if_neg hc).symm.trans hf
        refine AW.iload_n dX12_rule_109 rfl ?_
        refine AW.iconst (v := (4 : Int32)) dX12_rule_110 (by decide) ?_
        refine AW.icmp_ne (tgt := 140) dX12_rule_111 (by decide) (fun hc => ?_) (fun hc => ?_)
        · have hf := (if_neg hc).symm.trans hf
          obtain rfl := Option.some.inj hf
          exact AW.weak _ (by exact (And.intro rfl (And.intro rfl (And.intro rfl (And.intro rfl (And.intro rfl trivial)))))) hE
        · have hf := (if_pos hc).symm.trans hf
          refine AW.aload_n dX12_rule_114 rfl ?_
          refine TW.getR fX12_83_12 hs.k89 (rf_some hs.r89_36) dX12_rule_115 ?_
          refine AW.bipush (v := (40 : Int32)) dX12_rule_118 (by decide) ?_
          refine AW.iload_n dX12_rule_120 rfl ?_
          refine AW.imul dX12_rule_121 ?_
          refine AW.iload dX12_rule_122 rfl ?_
          refine AW.iadd dX12_rule_124 ?_
          obtain ⟨h13, hf⟩ := gd_split hf
          refine TW.iald (x := (I 109 (tn (((40 : Int32) * p3) + i12)))) hs.k109 h13 rfl dX12_rule_125 ?_
          refine AW.iconst (v := (0 : Int32)) dX12_rule_126 (by decide) ?_
          refine AW.bipush (v := (50 : Int32)) dX12_rule_127 (by decide) ?_
          obtain ⟨v14, gv14, hf⟩ := ob_split hf
          refine TW.invs (as := [.int (I 109 (tn (((40 : Int32) * p3) + i12))), .int (0 : Int32), .int (50 : Int32)]) (rest := []) stX12_133 dX12_rule_129 rfl rfl (Nat.le_of_ble_eq_true rfl) (c_X12_in hs gv14 ?_)
          show AW G mX12_rule (d + 1) 0 0 K 132 [some (.ref 89), some (.int p1), some (.int p2), some (.int p3), some (.int i11), some (.int i12)] [.int v14] (I, J, ρ)
          refine AW.istore (ls' := [some (.ref 89), some (.int p1), some (.int p2), some (.int p3), some (.int v14), some (.int i12)]) dX12_rule_132 (Nat.le_of_ble_eq_true rfl) rfl ?_
          refine AW.iinc (v := (i12 + (1 : Int32))) (ls' := [some (.ref 89), some (.int p1), some (.int p2), some (.int p3), some (.int v14), some (.int (i12 + (1 : Int32)))]) dX12_rule_134 rfl rfl (Nat.le_of_ble_eq_true rfl) rfl ?_
          refine AW.goto (tgt := 95) dX12_rule_137 (by decide) ?_
          exact AW.weak _ (by exact (And.intro rfl (And.intro rfl (And.intro rfl (And.intro rfl (And.intro rfl (And.intro rfl trivial))))))) (ih v14 (i12 + (1 : Int32)) hf hE)
def f_X12_rule_183 (N : Nat) (J : Nat → Nat → Int64) (ρ : Rh) (p1 : Int32) (p3 : Int32) : Nat → (Nat → Nat → Int32) → Int32 → Option ((Nat → Nat → Int32))
  | 0, _, _ => none
  | n + 1, I18, i19 => (if ((8 : Int32) ≤ i19) then some I18 else (((if (p1 = (4 : Int32)) then (if ((I18 89 0) ≤ i19) then some (0 : Int32) else (if ¬ ((((40 : Int32) * p3) + i19) < 0 ∨ 160 ≤ tn (((40 : Int32) * p3) + i19)) then some (I18 109 (tn (((40 : Int32) * p3) + i19))) else none)) else some (0 : Int32)) : Option (Int32)).bind fun j21 => (if ¬ ((((8 : Int32) * (I18 89 9)) + i19) < 0 ∨ 64 ≤ tn (((8 : Int32) * (I18 89 9)) + i19)) then f_X12_rule_183 N J ρ p1 p3 n (u2 I18 96 (tn (((8 : Int32) * (I18 89 9)) + i19)) j21) (i19 + (1 : Int32)) else none)))
theorem l_X12_rule_183 {G : Gd} {d N : Nat} {K : Ah → Option Value → Prop} {J : Nat → Nat → Int64} {ρ : Rh} {p1 : Int32} {p3 : Int32} (hs : Sh ρ) {o : (Nat → Nat → Int32)} : ∀ (n : Nat) (I18 : Nat → Nat → Int32) (i19 : Int32), f_X12_rule_183 N J ρ p1 p3 n I18 i19 = some o → AW G mX12_rule (d + 1) 0 0 K 241 [some (.ref 89), none, none, none, none, none] [] (o, J, ρ) → AW G mX12_rule (d + 1) 0 0 K 183 [some (.ref 89), some (.int p1), none, some (.int p3), none, some (.int i19)] [] (I18, J, ρ) := by
  intro n
  induction n with
  | zero => intro I18 i19 hf hE; rw [f_X12_rule_183.eq_1] at hf; cases hf
  | succ n ih =>
    intro I18 i19 hf hE
    rw [f_X12_rule_183.eq_2] at hf
    refine AW.iload dX12_rule_183 rfl ?_
    refine AW.bipush (v := (8 : Int32)) dX12_rule_185 (by decide) ?_
    refine AW.icmp_ge (tgt := 241) dX12_rule_187 (by decide) (fun hc => ?_) (fun hc => ?_)
    · have hf := (if_pos hc).symm.trans hf
      obtain rfl := Option.some.inj hf
      exact AW.weak _ (by exact (And.intro rfl trivial)) hE
    · have hf := (if_neg hc).symm.trans hf
      refine AW.aload_n dX12_rule_190 rfl ?_
      refine TW.getR fX12_41_12 hs.k89 (rf_some hs.r89_12) dX12_rule_191 ?_
      refine AW.bipush (v := (8 : Int32)) dX12_rule_194 (by decide) ?_
      refine AW.aload_n dX12_rule_196 rfl ?_
      refine TW.getI (x := (I18 89 9)) fX12_137_12 hs.k89 rfl dX12_rule_197 ?_
      refine AW.imul dX12_rule_200 ?_
      refine AW.iload dX12_rule_201 rfl ?_
      refine AW.iadd dX12_rule_203 ?_
      refine AW.iload_n dX12_rule_204 rfl ?_
      refine AW.iconst (v := (4 : Int32)) dX12_rule_205 (by decide) ?_
      obtain ⟨j21, gj21, hf⟩ := ob_split hf
      have Kj21 : AW G mX12_rule (d + 1) 0 0 K 234 [some (.ref 89), some (.int p1), none, some (.int p3), none, some (.int i19)] [.int j21, .int (((8 : Int32) * (I18 89 9)) + i19), .ref 96] (I18, J, ρ) := by
        obtain ⟨h22, hf⟩ := gd_split hf
        refine TW.iast hs.k96 h22 dX12_rule_234 ?_
        show AW G mX12_rule (d + 1) 0 0 K 235 [some (.ref 89), some (.int p1), none, some (.int p3), none, some (.int i19)] [] ((u2 I18 96 (tn (((8 : Int32) * (I18 89 9)) + i19)) j21), J, ρ)
        refine AW.iinc (v := (i19 + (1 : Int32))) (ls' := [some (.ref 89), some (.int p1), none, some (.int p3), none, some (.int (i19 + (1 : Int32)))]) dX12_rule_235 rfl rfl (Nat.le_of_ble_eq_true rfl) rfl ?_
        refine AW.goto (tgt := 183) dX12_rule_238 (by decide) ?_
        exact AW.weak _ (by exact (And.intro rfl (And.intro rfl (And.intro rfl (And.intro rfl trivial))))) (ih (u2 I18 96 (tn (((8 : Int32) * (I18 89 9)) + i19)) j21) (i19 + (1 : Int32)) hf hE)
      clear hf; have hf := gj21; clear gj21
      refine AW.icmp_ne (tgt := 233) dX12_rule_206 (by decide) (fun hc => ?_) (fun hc => ?_)
      · have hf := (if_neg hc).symm.trans hf
        refine AW.iconst (v := (0 : Int32)) dX12_rule_233 (by decide) ?_
        obtain rfl := Option.some.inj hf
        exact AW.weak _ (by exact (And.intro rfl (And.intro rfl (And.intro rfl (And.intro rfl trivial))))) Kj21
      · have hf := (if_pos hc).symm.trans hf
        refine AW.iload dX12_rule_209 rfl ?_
        refine AW.aload_n dX12_rule_211 rfl ?_
        refine TW.getI (x := (I18 89 0)) fX12_130_12 hs.k89 rfl dX12_rule_212 ?_
        refine AW.icmp_ge (tgt := 233) dX12_rule_215 (by decide) (fun hc => ?_) (fun hc => ?_)
        · have hf := (if_pos hc).symm.trans hf
          refine AW.iconst (v := (0 : Int32)) dX12_rule_233 (by decide) ?_
          obtain rfl := Option.some.inj hf
          exact AW.weak _ (by exact (And.intro rfl (And.intro rfl (And.intro rfl (And.intro rfl trivial))))) Kj21
        · have hf := (if_neg hc).symm.trans hf
          refine AW.aload_n dX12_rule_218 rfl ?_
          refine TW.getR fX12_83_12 hs.k89 (rf_some hs.r89_36) dX12_rule_219 ?_
          refine AW.bipush (v := (40 : Int32)) dX12_rule_222 (by decide) ?_
          refine AW.iload_n dX12_rule_224 rfl ?_
          refine AW.imul dX12_rule_225 ?_
          refine AW.iload dX12_rule_226 rfl ?_
          refine AW.iadd dX12_rule_228 ?_
          obtain ⟨h20, hf⟩ := gd_split hf
          refine TW.iald (x := (I18 109 (tn (((40 : Int32) * p3) + i19)))) hs.k109 h20 rfl dX12_rule_229 ?_
          refine AW.goto (tgt := 234) dX12_rule_230 (by decide) ?_
          obtain rfl := Option.some.inj hf
          exact AW.weak _ (by exact (And.intro rfl (And.intro rfl (And.intro rfl (And.intro rfl trivial))))) Kj21
def f_X12_rule (N : Nat) (ρ : Rh) (I : Nat → Nat → Int32) (J : Nat → Nat → Int64) (p1 : Int32) (p2 : Int32) (p3 : Int32) : Option ((Nat → Nat → Int32) × Int32) := (Option.bind (f_X12_in N ρ I J p1 (0 : Int32) (5 : Int32)) fun v1 => (if (v1 = (0 : Int32)) then some (I, (-2 : Int32)) else (Option.bind (f_X12_in N ρ I J p2 (0 : Int32) (99 : Int32)) fun v2 => (if (v2 = (0 : Int32)) then some (I, (-2 : Int32)) else (((if (p1 = (4 : Int32)) then (Option.bind (f_X12_in N ρ I J p3 (0 : Int32) (3 : Int32)) fun v3 => (if (v3 = (0 : Int32)) then some (Sum.inl (I, (-2 : Int32))) else some (Sum.inr ()))) else some (Sum.inr ())) : Option (((Nat → Nat → Int32) × Int32) ⊕ (Unit))).bind fun j4 => scase j4 (fun r => some r) (fun j4 => (((if (p1 = (4 : Int32)) then (Option.bind (f_X12_in N ρ I J p3 (0 : Int32) (3 : Int32)) fun v5 => (((if (v5 = (0 : Int32)) then some (0 : Int32) else some p3) : Option (Int32)).bind fun j6 => (if ¬ (j6 < 0 ∨ 4 ≤ tn j6) then (if ((I 107 (tn j6)) = (-1 : Int32)) then some (Sum.inl (I, (-11 : Int32))) else some (Sum.inr ())) else none))) else some (Sum.inr ())) : Option (((Nat → Nat → Int32) × Int32) ⊕ (Unit))).bind fun j8 => scase j8 (fun r => some r) (fun j8 => (((if (p1 = (4 : Int32)) then (if ¬ (p3 < 0 ∨ 4 ≤ tn p3) then (if ((I 108 (tn p3)) = (I 89 0)) then some (1 : Int32) else some (0 : Int32)) else none) else some (1 : Int32)) : Option (Int32)).bind fun j10 => ((f_X12_rule_95 N I J ρ p1 p2 p3 N j10 (0 : Int32)).bind fun j15 => (if (j15 = (0 : Int32)) then some (I, (-2 : Int32)) else (if ((I 89 9) = (8 : Int32)) then some (I, (-4 : Int32)) else (if ¬ ((I 89 9) < 0 ∨ 8 ≤ tn (I 89 9)) then (if ¬ ((I 89 9) < 0 ∨ 8 ≤ tn (I 89 9)) then ((f_X12_rule_183 N J ρ p1 p3 N (u2 (u2 I 94 (tn (I 89 9)) p1) 95 (tn (I 89 9)) p2) (0 : Int32)).bind fun j23 => some ((u2 j23 89 9 ((j23 89 9) + (1 : Int32))), (((j23 89 9) + (1 : Int32)) - (1 : Int32)))) else none) else none)))))))))))))
theorem c_X12_rule {G : Gd} {d N : Nat} {K : Ah → Option Value → Prop} {ρ : Rh} {I : Nat → Nat → Int32} {J : Nat → Nat → Int64} {p1 : Int32} {p2 : Int32} {p3 : Int32} {o : (Nat → Nat → Int32) × Int32} (hs : Sh ρ) (hf : f_X12_rule N ρ I J p1 p2 p3 = some o) (hK : K (o.1, J, ρ) (some (.int o.2))) : AM G (d + 1) 0 0 mX12_rule [.ref 89, .int p1, .int p2, .int p3] (I, J, ρ) K := by
  unfold f_X12_rule at hf
  refine AM.intro okX12_rule.2.2.2.1 (Nat.le_of_ble_eq_true rfl) [some (.ref 89), some (.int p1), some (.int p2), some (.int p3), none, none] rfl ?_
  refine AW.iload_n dX12_rule_0 rfl ?_
  refine AW.iconst (v := (0 : Int32)) dX12_rule_1 (by decide) ?_
  refine AW.iconst (v := (5 : Int32)) dX12_rule_2 (by decide) ?_
  obtain ⟨v1, gv1, hf⟩ := ob_split hf
  refine TW.invs (as := [.int p1, .int (0 : Int32), .int (5 : Int32)]) (rest := []) stX12_133 dX12_rule_3 rfl rfl (Nat.le_of_ble_eq_true rfl) (c_X12_in hs gv1 ?_)
  show AW G mX12_rule (d + 1) 0 0 K 6 [some (.ref 89), some (.int p1), some (.int p2), some (.int p3), none, none] [.int v1] (I, J, ρ)
  refine AW.if_eq (tgt := 33) dX12_rule_6 (by decide) (fun hc => ?_) (fun hc => ?_)
  · have hf := (if_pos hc).symm.trans hf
    refine AW.bipush (v := (-2 : Int32)) dX12_rule_33 (by decide) ?_
    obtain rfl := Option.some.inj hf
    exact AW.iret (st := []) dX12_rule_35 rfl hK
  · have hf := (if_neg hc).symm.trans hf
    refine AW.iload_n dX12_rule_9 rfl ?_
    refine AW.iconst (v := (0 : Int32)) dX12_rule_10 (by decide) ?_
    refine AW.bipush (v := (99 : Int32)) dX12_rule_11 (by decide) ?_
    obtain ⟨v2, gv2, hf⟩ := ob_split hf
    refine TW.invs (as := [.int p2, .int (0 : Int32), .int (99 : Int32)]) (rest := []) stX12_133 dX12_rule_13 rfl rfl (Nat.le_of_ble_eq_true rfl) (c_X12_in hs gv2 ?_)
    show AW G mX12_rule (d + 1) 0 0 K 16 [some (.ref 89), some (.int p1), some (.int p2), some (.int p3), none, none] [.int v2] (I, J, ρ)
    refine AW.if_eq (tgt := 33) dX12_rule_16 (by decide) (fun hc => ?_) (fun hc => ?_)
    · have hf := (if_pos hc).symm.trans hf
      refine AW.bipush (v := (-2 : Int32)) dX12_rule_33 (by decide) ?_
      obtain rfl := Option.some.inj hf
      exact AW.iret (st := []) dX12_rule_35 rfl hK
    · have hf := (if_neg hc).symm.trans hf
      refine AW.iload_n dX12_rule_19 rfl ?_
      refine AW.iconst (v := (4 : Int32)) dX12_rule_20 (by decide) ?_
      obtain ⟨j4, gj4, hf⟩ := ob_split hf
      have Kj4 : scase j4 (fun r => K (r.1, J, ρ) (some (.int r.2))) (fun j4 => AW G mX12_rule (d + 1) 0 0 K 36 [some (.ref 89), some (.int p1), some (.int p2), some (.int p3), none, none] [] (I, J, ρ)) := by
        rcases j4 with r | j4
        · obtain rfl := Option.some.inj hf; exact hK
        · show AW G mX12_rule (d + 1) 0 0 K 36 [some (.ref 89), some (.int p1), some (.int p2), some (.int p3), none, none] [] (I, J, ρ)
          refine AW.iload_n dX12_rule_36 rfl ?_
          refine AW.iconst (v := (4 : Int32)) dX12_rule_37 (by decide) ?_
          obtain ⟨j8, gj8, hf⟩ := ob_split hf
          have Kj8 : scase j8 (fun r => K (r.1, J, ρ) (some (.int r.2))) (fun j8 => AW G mX12_rule (d + 1) 0 0 K 67 [some (.ref 89), some (.int p1), some (.int p2), some (.int p3), none, none] [] (I, J, ρ)) := by
            rcases j8 with r | j8
            · obtain rfl := Option.some.inj hf; exact hK
            · show AW G mX12_rule (d + 1) 0 0 K 67 [some (.ref 89), some (.int p1), some (.int p2), some (.int p3), none, none] [] (I, J, ρ)
              refine AW.iload_n dX12_rule_67 rfl ?_
              refine AW.iconst (v := (4 : Int32)) dX12_rule_68 (by decide) ?_
              obtain ⟨j10, gj10, hf⟩ := ob_split hf
              have Kj10 : AW G mX12_rule (d + 1) 0 0 K 90 [some (.ref 89), some (.int p1), some (.int p2), some (.int p3), none, none] [.int j10] (I, J, ρ) := by
                refine AW.istore (ls' := [some (.ref 89), some (.int p1), some (.int p2), some (.int p3), some (.int j10), none]) dX12_rule_90 (Nat.le_of_ble_eq_true rfl) rfl ?_
                refine AW.iconst (v := (0 : Int32)) dX12_rule_92 (by decide) ?_
                refine AW.istore (ls' := [some (.ref 89), some (.int p1), some (.int p2), some (.int p3), some (.int j10), some (.int (0 : Int32))]) dX12_rule_93 (Nat.le_of_ble_eq_true rfl) rfl ?_
                obtain ⟨j15, gj15, hf⟩ := ob_split hf
                refine AW.weak _ (by exact (And.intro rfl (And.intro rfl (And.intro rfl (And.intro rfl (And.intro rfl (And.intro rfl trivial))))))) (l_X12_rule_95 hs N j10 (0 : Int32) gj15 ?_)
                show AW G mX12_rule (d + 1) 0 0 K 140 [some (.ref 89), some (.int p1), some (.int p2), some (.int p3), some (.int j15), none] [] (I, J, ρ)
                refine AW.iload dX12_rule_140 rfl ?_
                refine AW.if_ne (tgt := 148) dX12_rule_142 (by decide) (fun hc => ?_) (fun hc => ?_)
                · have hf := (if_neg hc).symm.trans hf
                  refine AW.aload_n dX12_rule_148 rfl ?_
                  refine TW.getI (x := (I 89 9)) fX12_137_12 hs.k89 rfl dX12_rule_149 ?_
                  refine AW.bipush (v := (8 : Int32)) dX12_rule_152 (by decide) ?_
                  refine AW.icmp_ne (tgt := 160) dX12_rule_154 (by decide) (fun hc => ?_) (fun hc => ?_)
                  · have hf := (if_neg hc).symm.trans hf
                    refine AW.aload_n dX12_rule_160 rfl ?_
                    refine TW.getR fX12_35_12 hs.k89 (rf_some hs.r89_10) dX12_rule_161 ?_
                    refine AW.aload_n dX12_rule_164 rfl ?_
                    refine TW.getI (x := (I 89 9)) fX12_137_12 hs.k89 rfl dX12_rule_165 ?_
                    refine AW.iload_n dX12_rule_168 rfl ?_
                    obtain ⟨h16, hf⟩ := gd_split hf
                    refine TW.iast hs.k94 h16 dX12_rule_169 ?_
                    show AW G mX12_rule (d + 1) 0 0 K 170 [some (.ref 89), some (.int p1), some (.int p2), some (.int p3), some (.int j15), none] [] ((u2 I 94 (tn (I 89 9)) p1), J, ρ)
                    refine AW.aload_n dX12_rule_170 rfl ?_
                    refine TW.getR fX12_38_12 hs.k89 (rf_some hs.r89_11) dX12_rule_171 ?_
                    refine AW.aload_n dX12_rule_174 rfl ?_
                    refine TW.getI (x := (I 89 9)) fX12_137_12 hs.k89 (u2_ne (by decide)) dX12_rule_175 ?_
                    refine AW.iload_n dX12_rule_178 rfl ?_
                    obtain ⟨h17, hf⟩ := gd_split hf
                    refine TW.iast hs.k95 h17 dX12_rule_179 ?_
                    show AW G mX12_rule (d + 1) 0 0 K 180 [some (.ref 89), some (.int p1), some (.int p2), some (.int p3), some (.int j15), none] [] ((u2 (u2 I 94 (tn (I 89 9)) p1) 95 (tn (I 89 9)) p2), J, ρ)
                    refine AW.iconst (v := (0 : Int32)) dX12_rule_180 (by decide) ?_
                    refine AW.istore (ls' := [some (.ref 89), some (.int p1), some (.int p2), some (.int p3), some (.int j15), some (.int (0 : Int32))]) dX12_rule_181 (Nat.le_of_ble_eq_true rfl) rfl ?_
                    obtain ⟨j23, gj23, hf⟩ := ob_split hf
                    refine AW.weak _ (by exact (And.intro rfl (And.intro rfl (And.intro rfl (And.intro rfl trivial))))) (l_X12_rule_183 hs N (u2 (u2 I 94 (tn (I 89 9)) p1) 95 (tn (I 89 9)) p2) (0 : Int32) gj23 ?_)
                    show AW G mX12_rule (d + 1) 0 0 K 241 [some (.ref 89), none, none, none, none, none] [] (j23, J, ρ)
                    refine AW.aload_n dX12_rule_241 rfl ?_
                    refine AW.dup dX12_rule_242 rfl ?_
                    refine TW.getI (x := (j23 89 9)) fX12_137_12 hs.k89 rfl dX12_rule_243 ?_
                    refine AW.iconst (v := (1 : Int32)) dX12_rule_246 (by decide) ?_
                    refine AW.iadd dX12_rule_247 ?_
                    refine TW.putI fX12_137_12 hs.k89 (Or.inl rfl) dX12_rule_248 ?_
                    show AW G mX12_rule (d + 1) 0 0 K 251 [some (.ref 89), none, none, none, none, none] [] ((u2 j23 89 9 ((j23 89 9) + (1 : Int32))), J, ρ)
                    refine AW.aload_n dX12_rule_251 rfl ?_
                    refine TW.getI (x := ((j23 89 9) + (1 : Int32))) fX12_137_12 hs.k89 u2_eq dX12_rule_252 ?_
                    refine AW.iconst (v := (1 : Int32)) dX12_rule_255 (by decide) ?_
                    refine AW.isub dX12_rule_256 ?_
                    obtain rfl := Option.some.inj hf
                    exact AW.iret (st := []) dX12_rule_257 rfl hK
                  · have hf := (if_pos hc).symm.trans hf
                    refine AW.bipush (v := (-4 : Int32)) dX12_rule_157 (by decide) ?_
                    obtain rfl := Option.some.inj hf
                    exact AW.iret (st := []) dX12_rule_159 rfl hK
                · have hf := (if_pos hc).symm.trans hf
                  refine AW.bipush (v := (-2 : Int32)) dX12_rule_145 (by decide) ?_
                  obtain rfl := Option.some.inj hf
                  exact AW.iret (st := []) dX12_rule_147 rfl hK
              clear hf; have hf := gj10; clear gj10
              refine AW.icmp_ne (tgt := 85) dX12_rule_69 (by decide) (fun hc => ?_) (fun hc => ?_)
              · have hf := (if_neg hc).symm.trans hf
                refine AW.iconst (v := (1 : Int32)) dX12_rule_85 (by decide) ?_
                refine AW.goto (tgt := 90) dX12_rule_86 (by decide) ?_
                obtain rfl := Option.some.inj hf
                exact AW.weak _ (by exact (And.intro rfl (And.intro rfl (And.intro rfl (And.intro rfl trivial))))) Kj10
              · have hf := (if_pos hc).symm.trans hf
                refine AW.aload_n dX12_rule_72 rfl ?_
                refine TW.getR fX12_80_12 hs.k89 (rf_some hs.r89_35) dX12_rule_73 ?_
                refine AW.iload_n dX12_rule_76 rfl ?_
                obtain ⟨h9, hf⟩ := gd_split hf
                refine TW.iald (x := (I 108 (tn p3))) hs.k108 h9 rfl dX12_rule_77 ?_
                refine AW.aload_n dX12_rule_78 rfl ?_
                refine TW.getI (x := (I 89 0)) fX12_130_12 hs.k89 rfl dX12_rule_79 ?_
                refine AW.icmp_ne (tgt := 89) dX12_rule_82 (by decide) (fun hc => ?_) (fun hc => ?_)
                · have hf := (if_neg hc).symm.trans hf
                  refine AW.iconst (v := (0 : Int32)) dX12_rule_89 (by decide) ?_
                  obtain rfl := Option.some.inj hf
                  exact AW.weak _ (by exact (And.intro rfl (And.intro rfl (And.intro rfl (And.intro rfl trivial))))) Kj10
                · have hf := (if_pos hc).symm.trans hf
                  refine AW.iconst (v := (1 : Int32)) dX12_rule_85 (by decide) ?_
                  refine AW.goto (tgt := 90) dX12_rule_86 (by decide) ?_
                  obtain rfl := Option.some.inj hf
                  exact AW.weak _ (by exact (And.intro rfl (And.intro rfl (And.intro rfl (And.intro rfl trivial))))) Kj10
          clear hf; have hf := gj8; clear gj8
          refine AW.icmp_ne (tgt := 67) dX12_rule_38 (by decide) (fun hc => ?_) (fun hc => ?_)
          · have hf := (if_neg hc).symm.trans hf
            obtain rfl := Option.some.inj hf
            exact AW.weak _ (by exact (And.intro rfl (And.intro rfl (And.intro rfl (And.intro rfl trivial))))) Kj8
          · have hf := (if_pos hc).symm.trans hf
            refine AW.aload_n dX12_rule_41 rfl ?_
            refine TW.getR fX12_77_12 hs.k89 (rf_some hs.r89_34) dX12_rule_42 ?_
            refine AW.iload_n dX12_rule_45 rfl ?_
            refine AW.iconst (v := (0 : Int32)) dX12_rule_46 (by decide) ?_
            refine AW.iconst (v := (3 : Int32)) dX12_rule_47 (by decide) ?_
            obtain ⟨v5, gv5, hf⟩ := ob_split hf
            refine TW.invs (as := [.int p3, .int (0 : Int32), .int (3 : Int32)]) (rest := [.ref 107]) stX12_133 dX12_rule_48 rfl rfl (Nat.le_of_ble_eq_true rfl) (c_X12_in hs gv5 ?_)
            show AW G mX12_rule (d + 1) 0 0 K 51 [some (.ref 89), some (.int p1), some (.int p2), some (.int p3), none, none] [.int v5, .ref 107] (I, J, ρ)
            obtain ⟨j6, gj6, hf⟩ := ob_split hf
            have Kj6 : AW G mX12_rule (d + 1) 0 0 K 59 [some (.ref 89), some (.int p1), some (.int p2), some (.int p3), none, none] [.int j6, .ref 107] (I, J, ρ) := by
              obtain ⟨h7, hf⟩ := gd_split hf
              refine TW.iald (x := (I 107 (tn j6))) hs.k107 h7 rfl dX12_rule_59 ?_
              refine AW.iconst (v := (-1 : Int32)) dX12_rule_60 (by decide) ?_
              refine AW.icmp_ne (tgt := 67) dX12_rule_61 (by decide) (fun hc => ?_) (fun hc => ?_)
              · have hf := (if_neg hc).symm.trans hf
                obtain rfl := Option.some.inj hf
                exact AW.weak _ (by exact (And.intro rfl (And.intro rfl (And.intro rfl (And.intro rfl trivial))))) Kj8
              · have hf := (if_pos hc).symm.trans hf
                refine AW.bipush (v := (-11 : Int32)) dX12_rule_64 (by decide) ?_
                obtain rfl := Option.some.inj hf
                exact AW.iret (st := []) dX12_rule_66 rfl Kj8
            clear hf; have hf := gj6; clear gj6
            refine AW.if_eq (tgt := 58) dX12_rule_51 (by decide) (fun hc => ?_) (fun hc => ?_)
            · have hf := (if_pos hc).symm.trans hf
              refine AW.iconst (v := (0 : Int32)) dX12_rule_58 (by decide) ?_
              obtain rfl := Option.some.inj hf
              exact AW.weak _ (by exact (And.intro rfl (And.intro rfl (And.intro rfl (And.intro rfl trivial))))) Kj6
            · have hf := (if_neg hc).symm.trans hf
              refine AW.iload_n dX12_rule_54 rfl ?_
              refine AW.goto (tgt := 59) dX12_rule_55 (by decide) ?_
              obtain rfl := Option.some.inj hf
              exact AW.weak _ (by exact (And.intro rfl (And.intro rfl (And.intro rfl (And.intro rfl trivial))))) Kj6
      clear hf; have hf := gj4; clear gj4
      refine AW.icmp_ne (tgt := 36) dX12_rule_21 (by decide) (fun hc => ?_) (fun hc => ?_)
      · have hf := (if_neg hc).symm.trans hf
        obtain rfl := Option.some.inj hf
        exact AW.weak _ (by exact (And.intro rfl (And.intro rfl (And.intro rfl (And.intro rfl trivial))))) Kj4
      · have hf := (if_pos hc).symm.trans hf
        refine AW.iload_n dX12_rule_24 rfl ?_
        refine AW.iconst (v := (0 : Int32)) dX12_rule_25 (by decide) ?_
        refine AW.iconst (v := (3 : Int32)) dX12_rule_26 (by decide) ?_
        obtain ⟨v3, gv3, hf⟩ := ob_split hf
        refine TW.invs (as := [.int p3, .int (0 : Int32), .int (3 : Int32)]) (rest := []) stX12_133 dX12_rule_27 rfl rfl (Nat.le_of_ble_eq_true rfl) (c_X12_in hs gv3 ?_)
        show AW G mX12_rule (d + 1) 0 0 K 30 [some (.ref 89), some (.int p1), some (.int p2), some (.int p3), none, none] [.int v3] (I, J, ρ)
        refine AW.if_ne (tgt := 36) dX12_rule_30 (by decide) (fun hc => ?_) (fun hc => ?_)
        · have hf := (if_neg hc).symm.trans hf
          obtain rfl := Option.some.inj hf
          exact AW.weak _ (by exact (And.intro rfl (And.intro rfl (And.intro rfl (And.intro rfl trivial))))) Kj4
        · have hf := (if_pos hc).symm.trans hf
          refine AW.bipush (v := (-2 : Int32)) dX12_rule_33 (by decide) ?_
          obtain rfl := Option.some.inj hf
          exact AW.iret (st := []) dX12_rule_35 rfl Kj4
