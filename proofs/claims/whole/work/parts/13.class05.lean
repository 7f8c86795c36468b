/-! ===== methods 13.class 5 ===== -/
def f_X11_ruleAt (N : Nat) (ρ : Rh) (I : Nat → Nat → Int32) (J : Nat → Nat → Int64) (p1 : Int32) : Option (Option Nat) := (if (p1 < (0 : Int32)) then some none else (if ((8 : Int32) ≤ p1) then some none else (if ¬ (p1 < 0 ∨ 8 ≤ tn p1) then (bnd (ρ.1 33 (tn p1)) fun o2 => some o2) else none)))
theorem c_X11_ruleAt {G : Gd} {d N : Nat} {K : Ah → Option Value → Prop} {ρ : Rh} {I : Nat → Nat → Int32} {J : Nat → Nat → Int64} {p1 : Int32} {o : Option Nat} (hs : Sh ρ) (hf : f_X11_ruleAt N ρ I J p1 = some o) (hK : K (I, J, ρ) (some (va_rf o))) : AM G d 0 0 mX11_ruleAt [.ref 32, .int p1] (I, J, ρ) K := by
  unfold f_X11_ruleAt at hf
  refine AM.intro okX11_ruleAt.2.2.2.1 (Nat.le_of_ble_eq_true rfl) [some (.ref 32), some (.int p1)] rfl ?_
  refine AW.iload_n dX11_ruleAt_0 rfl ?_
  refine AW.if_lt (tgt := 19) dX11_ruleAt_1 (by decide) (fun hc => ?_) (fun hc => ?_)
  · have hf := (if_pos hc).symm.trans hf
    refine AW.null dX11_ruleAt_19 ?_
    obtain rfl := Option.some.inj hf
    exact AW.aret (st := []) (o := none) dX11_ruleAt_20 (Or.inl ⟨_, rfl⟩) hK
  · have hf := (if_neg hc).symm.trans hf
    refine AW.iload_n dX11_ruleAt_4 rfl ?_
    refine AW.bipush (v := (8 : Int32)) dX11_ruleAt_5 (by decide) ?_
    refine AW.icmp_ge (tgt := 19) dX11_ruleAt_7 (by decide) (fun hc => ?_) (fun hc => ?_)
    · have hf := (if_pos hc).symm.trans hf
      refine AW.null dX11_ruleAt_19 ?_
      obtain rfl := Option.some.inj hf
      exact AW.aret (st := []) (o := none) dX11_ruleAt_20 (Or.inl ⟨_, rfl⟩) hK
    · have hf := (if_neg hc).symm.trans hf
      refine AW.aload_n dX11_ruleAt_10 rfl ?_
      refine TW.getR fX11_11_11 hs.k32 (rf_some hs.r32_2) dX11_ruleAt_11 ?_
      refine AW.iload_n dX11_ruleAt_14 rfl ?_
      obtain ⟨h1, hf⟩ := gd_split hf
      obtain ⟨o2, go2, hf⟩ := bnd_one hf
      refine TW.aald (t := 0) (v := va_rf o2) hs.k33 (by decide) h1 (congrArg va_rf go2) dX11_ruleAt_15 ?_
      refine AW.goto (tgt := 20) dX11_ruleAt_16 (by decide) ?_
      obtain rfl := Option.some.inj hf
      exact AW.aret (st := []) (o := o2) dX11_ruleAt_20 (Or.inl ⟨_, rfl⟩) hK
def f_X11_ruleTold (N : Nat) (ρ : Rh) (I : Nat → Nat → Int32) (J : Nat → Nat → Int64) (p1 : Int32) (p2 : Int32) : Option (Int32) := (Option.bind (f_X11_ruleAt N ρ I J p1) fun v1 => (ocase v1 (some (-5 : Int32)) (fun a2 => (if (p2 < (0 : Int32)) then some (-7 : Int32) else (if (p2 < (10 : Int32)) then (if (p2 = (0 : Int32)) then (if isR (ρ.2.1 a2) then some (I a2 0) else none) else (if (p2 = (1 : Int32)) then (if isR (ρ.2.1 a2) then some (I a2 1) else none) else (Option.bind (f_any_toldFor N ρ I J a2 (p2 - (2 : Int32))) fun v4 => some v4))) else some (-7 : Int32))))))
theorem c_X11_ruleTold {G : Gd} {d N : Nat} {K : Ah → Option Value → Prop} {ρ : Rh} {I : Nat → Nat → Int32} {J : Nat → Nat → Int64} {p1 : Int32} {p2 : Int32} {o : Int32} (hs : Sh ρ) (hf : f_X11_ruleTold N ρ I J p1 p2 = some o) (hK : K (I, J, ρ) (some (.int o))) : AM G (d + 1) 0 0 mX11_ruleTold [.ref 32, .int p1, .int p2] (I, J, ρ) K := by
  unfold f_X11_ruleTold at hf
  refine AM.intro okX11_ruleTold.2.2.2.1 (Nat.le_of_ble_eq_true rfl) [some (.ref 32), some (.int p1), some (.int p2), none] rfl ?_
  refine AW.aload_n dX11_ruleTold_0 rfl ?_
  refine AW.iload_n dX11_ruleTold_1 rfl ?_
  obtain ⟨v1, gv1, hf⟩ := ob_split hf
  refine TW.invv (as := [.int p1]) (rest := []) viX11_133_11 hs.k32 dX11_ruleTold_2 rfl rfl (Nat.le_of_ble_eq_true rfl) (c_X11_ruleAt hs gv1 ?_)
  show AW G mX11_ruleTold (d + 1) 0 0 K 5 [some (.ref 32), some (.int p1), some (.int p2), none] [va_rf v1] (I, J, ρ)
  refine AW.astore_nq (ls' := [some (.ref 32), some (.int p1), some (.int p2), some (va_rf v1)]) dX11_ruleTold_5 (Nat.le_of_ble_eq_true rfl) rfl ?_
  refine AW.aload_nq dX11_ruleTold_6 rfl ?_
  refine AW.ifnonnull (tgt := 13) dX11_ruleTold_7 (by decide) (fun a2 hc => ?_) (fun hc => ?_)
  · have hf := ocase_s hc hf
    try rw [hc]
    show AW G mX11_ruleTold (d + 1) 0 0 K 13 [some (.ref 32), some (.int p1), some (.int p2), some (.ref a2)] [] (I, J, ρ)
    refine AW.iload_n dX11_ruleTold_13 rfl ?_
    refine AW.if_lt (tgt := 23) dX11_ruleTold_14 (by decide) (fun hc => ?_) (fun hc => ?_)
    · have hf := (if_pos hc).symm.trans hf
      refine AW.bipush (v := (-7 : Int32)) dX11_ruleTold_23 (by decide) ?_
      obtain rfl := Option.some.inj hf
      exact AW.iret (st := []) dX11_ruleTold_25 rfl hK
    · have hf := (if_neg hc).symm.trans hf
      refine AW.iload_n dX11_ruleTold_17 rfl ?_
      refine AW.bipush (v := (10 : Int32)) dX11_ruleTold_18 (by decide) ?_
      refine AW.icmp_lt (tgt := 26) dX11_ruleTold_20 (by decide) (fun hc => ?_) (fun hc => ?_)
      · have hf := (if_pos hc).symm.trans hf
        refine AW.iload_n dX11_ruleTold_26 rfl ?_
        refine AW.if_ne (tgt := 35) dX11_ruleTold_27 (by decide) (fun hc => ?_) (fun hc => ?_)
        · have hf := (if_neg hc).symm.trans hf
          refine AW.iload_n dX11_ruleTold_35 rfl ?_
          refine AW.iconst (v := (1 : Int32)) dX11_ruleTold_36 (by decide) ?_
          refine AW.icmp_ne (tgt := 47) dX11_ruleTold_37 (by decide) (fun hc => ?_) (fun hc => ?_)
          · have hf := (if_neg hc).symm.trans hf
            refine AW.aload_n dX11_ruleTold_47 rfl ?_
            refine AW.iload_n dX11_ruleTold_48 rfl ?_
            refine AW.iconst (v := (2 : Int32)) dX11_ruleTold_49 (by decide) ?_
            refine AW.isub dX11_ruleTold_50 ?_
            obtain ⟨v4, gv4, hf⟩ := ob_split hf
            refine TW.any_toldFor hs dX11_ruleTold_51 gv4 (Nat.le_of_ble_eq_true rfl) ?_
            show AW G mX11_ruleTold (d + 1) 0 0 K 54 [some (.ref 32), some (.int p1), some (.int p2), some (.ref a2)] [.int v4] (I, J, ρ)
            obtain rfl := Option.some.inj hf
            exact AW.iret (st := []) dX11_ruleTold_54 rfl hK
          · have hf := (if_pos hc).symm.trans hf
            refine AW.aload_n dX11_ruleTold_40 rfl ?_
            obtain ⟨h5, hf⟩ := gd_split hf
            refine TW.getQ (x := (I a2 1)) fX11_140_6 fX11_140_5 fX11_140_4 fX11_140_3 fX11_140_9 fX11_140_1 h5 rfl dX11_ruleTold_41 ?_
            refine AW.goto (tgt := 54) dX11_ruleTold_44 (by decide) ?_
            obtain rfl := Option.some.inj hf
            exact AW.iret (st := []) dX11_ruleTold_54 rfl hK
        · have hf := (if_pos hc).symm.trans hf
          refine AW.aload_n dX11_ruleTold_30 rfl ?_
          obtain ⟨h3, hf⟩ := gd_split hf
          refine TW.getQ (x := (I a2 0)) fX11_137_6 fX11_137_5 fX11_137_4 fX11_137_3 fX11_137_9 fX11_137_1 h3 rfl dX11_ruleTold_31 ?_
          obtain rfl := Option.some.inj hf
          exact AW.iret (st := []) dX11_ruleTold_34 rfl hK
      · have hf := (if_neg hc).symm.trans hf
        refine AW.bipush (v := (-7 : Int32)) dX11_ruleTold_23 (by decide) ?_
        obtain rfl := Option.some.inj hf
        exact AW.iret (st := []) dX11_ruleTold_25 rfl hK
  · have hf := ocase_n hc hf
    try rw [hc]
    show AW G mX11_ruleTold (d + 1) 0 0 K 10 [some (.ref 32), some (.int p1), some (.int p2), some (.null)] [] (I, J, ρ)
    refine AW.bipush (v := (-5 : Int32)) dX11_ruleTold_10 (by decide) ?_
    obtain rfl := Option.some.inj hf
    exact AW.iret (st := []) dX11_ruleTold_12 rfl hK
def f_X11_feed (N : Nat) (ρ : Rh) (I : Nat → Nat → Int32) (J : Nat → Nat → Int64) (p1 : Int64) (p2 : Int32) : Option ((Nat → Nat → Int32) × Int32) := (if (p2 < (1 : Int32)) then some (I, (-2 : Int32)) else (if (p2 ≤ (8 : Int32)) then (if (p2 ≤ ((160 : Int32) - (I 35 1))) then (Option.bind (f_X8_append N ρ I J p1 p2) fun v1 => some (v1, (v1 35 1))) else some (I, (-4 : Int32))) else some (I, (-2 : Int32))))
theorem c_X11_feed {G : Gd} {d N : Nat} {K : Ah → Option Value → Prop} {ρ : Rh} {I : Nat → Nat → Int32} {J : Nat → Nat → Int64} {p1 : Int64} {p2 : Int32} {o : (Nat → Nat → Int32) × Int32} (hs : Sh ρ) (hf : f_X11_feed N ρ I J p1 p2 = some o) (hK : K (o.1, J, ρ) (some (.int o.2))) : AM G (d + 1) 0 0 mX11_feed [.ref 32, .long p1, .int p2] (I, J, ρ) K := by
  unfold f_X11_feed at hf
  refine AM.intro okX11_feed.2.2.2.1 (Nat.le_of_ble_eq_true rfl) [some (.ref 32), some (.long p1), none, some (.int p2)] rfl ?_
  refine AW.iload_n dX11_feed_0 rfl ?_
  refine AW.iconst (v := (1 : Int32)) dX11_feed_1 (by decide) ?_
  refine AW.icmp_lt (tgt := 11) dX11_feed_2 (by decide) (fun hc => ?_) (fun hc => ?_)
  · have hf := (if_pos hc).symm.trans hf
    refine AW.bipush (v := (-2 : Int32)) dX11_feed_11 (by decide) ?_
    obtain rfl := Option.some.inj hf
    exact AW.iret (st := []) dX11_feed_13 rfl hK
  · have hf := (if_neg hc).symm.trans hf
    refine AW.iload_n dX11_feed_5 rfl ?_
    refine AW.bipush (v := (8 : Int32)) dX11_feed_6 (by decide) ?_
    refine AW.icmp_le (tgt := 14) dX11_feed_8 (by decide) (fun hc => ?_) (fun hc => ?_)
    · have hf := (if_pos hc).symm.trans hf
      refine AW.iload_n dX11_feed_14 rfl ?_
      refine AW.sipush (v := (160 : Int32)) dX11_feed_15 (by decide) ?_
      refine AW.aload_n dX11_feed_18 rfl ?_
      refine TW.getR fX11_24_11 hs.k32 (rf_some hs.r32_6) dX11_feed_19 ?_
      refine TW.getI (x := (I 35 1)) fX11_113_8 hs.k35 rfl dX11_feed_22 ?_
      refine AW.isub dX11_feed_25 ?_
      refine AW.icmp_le (tgt := 32) dX11_feed_26 (by decide) (fun hc => ?_) (fun hc => ?_)
      · have hf := (if_pos hc).symm.trans hf
        refine AW.aload_n dX11_feed_32 rfl ?_
        refine TW.getR fX11_24_11 hs.k32 (rf_some hs.r32_6) dX11_feed_33 ?_
        refine AW.lload_n dX11_feed_36 rfl ?_
        refine AW.iload_n dX11_feed_37 rfl ?_
        obtain ⟨v1, gv1, hf⟩ := ob_split hf
        refine TW.invv (as := [.long p1, .int p2]) (rest := []) viX11_147_8 hs.k35 dX11_feed_38 rfl rfl (Nat.le_of_ble_eq_true rfl) (c_X8_append hs gv1 ?_)
        show AW G mX11_feed (d + 1) 0 0 K 41 [some (.ref 32), some (.long p1), none, some (.int p2)] [] (v1, J, ρ)
        refine AW.aload_n dX11_feed_41 rfl ?_
        refine TW.getR fX11_24_11 hs.k32 (rf_some hs.r32_6) dX11_feed_42 ?_
        refine TW.getI (x := (v1 35 1)) fX11_113_8 hs.k35 rfl dX11_feed_45 ?_
        obtain rfl := Option.some.inj hf
        exact AW.iret (st := []) dX11_feed_48 rfl hK
      · have hf := (if_neg hc).symm.trans hf
        refine AW.bipush (v := (-4 : Int32)) dX11_feed_29 (by decide) ?_
        obtain rfl := Option.some.inj hf
        exact AW.iret (st := []) dX11_feed_31 rfl hK
    · have hf := (if_neg hc).symm.trans hf
      refine AW.bipush (v := (-2 : Int32)) dX11_feed_11 (by decide) ?_
      obtain rfl := Option.some.inj hf
      exact AW.iret (st := []) dX11_feed_13 rfl hK
def f_X11_force (N : Nat) (ρ : Rh) (I : Nat → Nat → Int32) (J : Nat → Nat → Int64) (p1 : Int32) : Option ((Rh) × Int32) := (((if (p1 < (0 : Int32)) then some none else (if ((6 : Int32) ≤ p1) then some none else (if ¬ (p1 < 0 ∨ 6 ≤ tn p1) then (bnd (ρ.1 34 (tn p1)) fun o2 => some o2) else none))) : Option (Option Nat)).bind fun j3 => (ocase j3 (some (ρ, (-2 : Int32))) (fun a4 => (Option.bind (ρ.1 42 6) fun a5 => (if ρ.2.1 a5 = (0, 2) then some ((u2 ρ.1 42 6 (some a4), ρ.2), (I a5 0)) else none)))))
theorem c_X11_force {G : Gd} {d N : Nat} {K : Ah → Option Value → Prop} {ρ : Rh} {I : Nat → Nat → Int32} {J : Nat → Nat → Int64} {p1 : Int32} {o : (Rh) × Int32} (hs : Sh ρ) (hf : f_X11_force N ρ I J p1 = some o) (hK : (Sh o.1 → K (I, J, o.1) (some (.int o.2)))) : AM G d 0 0 mX11_force [.ref 32, .int p1] (I, J, ρ) K := by
  unfold f_X11_force at hf
  refine AM.intro okX11_force.2.2.2.1 (Nat.le_of_ble_eq_true rfl) [some (.ref 32), some (.int p1), none, none] rfl ?_
  refine AW.iload_n dX11_force_0 rfl ?_
  obtain ⟨j3, gj3, hf⟩ := ob_split hf
  have Kj3 : AW G mX11_force d 0 0 K 20 [some (.ref 32), none, none, none] [va_rf j3] (I, J, ρ) := by
    refine AW.astore_nq (ls' := [some (.ref 32), none, some (va_rf j3), none]) dX11_force_20 (Nat.le_of_ble_eq_true rfl) rfl ?_
    refine AW.aload_nq dX11_force_21 rfl ?_
    refine AW.ifnonnull (tgt := 28) dX11_force_22 (by decide) (fun a4 hc => ?_) (fun hc => ?_)
    · have hf := ocase_s hc hf
      try rw [hc]
      show AW G mX11_force d 0 0 K 28 [some (.ref 32), none, some (.ref a4), none] [] (I, J, ρ)
      refine AW.aload_n dX11_force_28 rfl ?_
      refine TW.getR fX11_50_11 hs.k32 (rf_some hs.r32_0) dX11_force_29 ?_
      obtain ⟨a5, ga5, hf⟩ := ob_split hf
      refine TW.getR (v := .ref a5) fX11_106_0 hs.k42 (rf_some ga5) dX11_force_32 ?_
      obtain ⟨h6, hf⟩ := gd_split hf
      refine TW.getI (x := (I a5 0)) fX11_110_2 h6 rfl dX11_force_35 ?_
      refine AW.istore_n (ls' := [some (.ref 32), none, some (.ref a4), some (.int (I a5 0))]) dX11_force_38 (Nat.le_of_ble_eq_true rfl) rfl ?_
      refine AW.aload_n dX11_force_39 rfl ?_
      refine TW.getR fX11_50_11 hs.k32 (rf_some hs.r32_0) dX11_force_40 ?_
      refine AW.aload_n dX11_force_43 rfl ?_
      refine TW.putR (o := (some a4)) fX11_106_0 hs.k42 rfl (Or.inl rfl) dX11_force_44 ?_
      have hs := Sh.put hs 42 6 (some a4) (by decide) (by decide)
      show AW G mX11_force d 0 0 K 47 [some (.ref 32), none, some (.ref a4), some (.int (I a5 0))] [] (I, J, (u2 ρ.1 42 6 (some a4), ρ.2))
      refine AW.iload_n dX11_force_47 rfl ?_
      obtain rfl := Option.some.inj hf
      exact AW.iret (st := []) dX11_force_48 rfl ((show Sh (u2 ρ.1 42 6 (some a4), ρ.2) → _ from hK) hs)
    · have hf := ocase_n hc hf
      try rw [hc]
      show AW G mX11_force d 0 0 K 25 [some (.ref 32), none, some (.null), none] [] (I, J, ρ)
      refine AW.bipush (v := (-2 : Int32)) dX11_force_25 (by decide) ?_
      obtain rfl := Option.some.inj hf
      exact AW.iret (st := []) dX11_force_27 rfl ((show Sh ρ → _ from hK) hs)
  clear hf; have hf := gj3; clear gj3
  refine AW.if_lt (tgt := 19) dX11_force_1 (by decide) (fun hc => ?_) (fun hc => ?_)
  · have hf := (if_pos hc).symm.trans hf
    refine AW.null dX11_force_19 ?_
    obtain rfl := Option.some.inj hf
    exact AW.weak _ (by exact (And.intro rfl trivial)) Kj3
  · have hf := (if_neg hc).symm.trans hf
    refine AW.iload_n dX11_force_4 rfl ?_
    refine AW.bipush (v := (6 : Int32)) dX11_force_5 (by decide) ?_
    refine AW.icmp_ge (tgt := 19) dX11_force_7 (by decide) (fun hc => ?_) (fun hc => ?_)
    · have hf := (if_pos hc).symm.trans hf
      refine AW.null dX11_force_19 ?_
      obtain rfl := Option.some.inj hf
      exact AW.weak _ (by exact (And.intro rfl trivial)) Kj3
    · have hf := (if_neg hc).symm.trans hf
      refine AW.aload_n dX11_force_10 rfl ?_
      refine TW.getR fX11_17_11 hs.k32 (rf_some hs.r32_4) dX11_force_11 ?_
      refine AW.iload_n dX11_force_14 rfl ?_
      obtain ⟨h1, hf⟩ := gd_split hf
      obtain ⟨o2, go2, hf⟩ := bnd_one hf
      refine TW.aald (t := 1) (v := va_rf o2) hs.k34 (by decide) h1 (congrArg va_rf go2) dX11_force_15 ?_
      refine AW.goto (tgt := 20) dX11_force_16 (by decide) ?_
      obtain rfl := Option.some.inj hf
      exact AW.weak _ (by exact (And.intro rfl trivial)) Kj3
def f_X11_inLowestTerms_13 (N : Nat) (I : Nat → Nat → Int32) (J : Nat → Nat → Int64) (ρ : Rh) (p1 : Int64) (p2 : Int32) : Nat → Int64 → Int64 → Int32 → Option (Int64)
  | 0, _, _, _ => none
  | n + 1, q1, q2, i3 => (if ((100 : Int32) ≤ i3) then some q1 else (if (q2 = (0 : Int64)) then some q1 else (if ¬ q2 = 0 then f_X11_inLowestTerms_13 N I J ρ p1 p2 n q2 (q1 - q1 / q2 * q2) (i3 + (1 : Int32)) else none)))
theorem l_X11_inLowestTerms_13 {G : Gd} {d N : Nat} {K : Ah → Option Value → Prop} {I : Nat → Nat → Int32} {J : Nat → Nat → Int64} {ρ : Rh} {p1 : Int64} {p2 : Int32} (hs : Sh ρ) {o : Int64} : ∀ (n : Nat) (q1 : Int64) (q2 : Int64) (i3 : Int32), f_X11_inLowestTerms_13 N I J ρ p1 p2 n q1 q2 i3 = some o → AW G mX11_inLowestTerms (d + 1) 0 0 K 46 [some (.long p1), none, some (.int p2), some (.long o), none, none, none, none, none, none] [] (I, J, ρ) → AW G mX11_inLowestTerms (d + 1) 0 0 K 13 [some (.long p1), none, some (.int p2), some (.long q1), none, some (.long q2), none, some (.int i3), none, none] [] (I, J, ρ) := by
  intro n
  induction n with
  | zero => intro q1 q2 i3 hf hE; rw [f_X11_inLowestTerms_13.eq_1] at hf; cases hf
  | succ n ih =>
    intro q1 q2 i3 hf hE
    rw [f_X11_inLowestTerms_13.eq_2] at hf
    refine AW.iload dX11_inLowestTerms_13 rfl ?_
    refine AW.bipush (v := (100 : Int32)) dX11_inLowestTerms_15 (by decide) ?_
    refine AW.icmp_ge (tgt := 46) dX11_inLowestTerms_17 (by decide) (fun hc => ?_) (fun hc => ?_)
    · have hf := (if_pos hc).symm.trans hf
      obtain rfl := Option.some.inj hf
      exact AW.weak _ (by exact (And.intro rfl (And.intro rfl (And.intro rfl trivial)))) hE
    · have hf := (if_neg hc).symm.trans hf
      refine AW.lload dX11_inLowestTerms_20 rfl ?_
      refine AW.lconst (v := (0 : Int64)) dX11_inLowestTerms_22 (by decide) ?_
      refine AW.lcmp dX11_inLowestTerms_23 ?_
      refine AW.if_eq (tgt := 46) dX11_inLowestTerms_24 (by decide) (fun hc => ?_) (fun hc => ?_)
      · have hc : (q2 = (0 : Int64)) := (lc_eq _ _).mp hc; have hf := (if_pos hc).symm.trans hf
        obtain rfl := Option.some.inj hf
        exact AW.weak _ (by exact (And.intro rfl (And.intro rfl (And.intro rfl trivial)))) hE
      · have hc : ¬ (q2 = (0 : Int64)) := fun z => hc ((lc_eq _ _).mpr z); have hf := (if_neg hc).symm.trans hf
        refine AW.lload_n dX11_inLowestTerms_27 rfl ?_
        refine AW.lload dX11_inLowestTerms_28 rfl ?_
        obtain ⟨h4, hf⟩ := gd_split hf
        refine AW.lrem (hne := h4) dX11_inLowestTerms_30 ?_
        refine AW.lstore (ls' := [some (.long p1), none, some (.int p2), some (.long q1), none, some (.long q2), none, some (.int i3), some (.long (q1 - q1 / q2 * q2)), none]) dX11_inLowestTerms_31 (Nat.le_of_ble_eq_true rfl) rfl ?_
        refine AW.lload dX11_inLowestTerms_33 rfl ?_
        refine AW.lstore_n (ls' := [some (.long p1), none, some (.int p2), some (.long q2), none, some (.long q2), none, some (.int i3), some (.long (q1 - q1 / q2 * q2)), none]) dX11_inLowestTerms_35 (Nat.le_of_ble_eq_true rfl) rfl ?_
        refine AW.lload dX11_inLowestTerms_36 rfl ?_
        refine AW.lstore (ls' := [some (.long p1), none, some (.int p2), some (.long q2), none, some (.long (q1 - q1 / q2 * q2)), none, some (.int i3), some (.long (q1 - q1 / q2 * q2)), none]) dX11_inLowestTerms_38 (Nat.le_of_ble_eq_true rfl) rfl ?_
        refine AW.iinc (v := (i3 + (1 : Int32))) (ls' := [some (.long p1), none, some (.int p2), some (.long q2), none, some (.long (q1 - q1 / q2 * q2)), none, some (.int (i3 + (1 : Int32))), some (.long (q1 - q1 / q2 * q2)), none]) dX11_inLowestTerms_40 rfl rfl (Nat.le_of_ble_eq_true rfl) rfl ?_
        refine AW.goto (tgt := 13) dX11_inLowestTerms_43 (by decide) ?_
        exact AW.weak _ (by exact (And.intro rfl (And.intro rfl (And.intro rfl (And.intro rfl (And.intro rfl trivial)))))) (ih q2 (q1 - q1 / q2 * q2) (i3 + (1 : Int32)) hf hE)
def f_X11_inLowestTerms (N : Nat) (ρ : Rh) (I : Nat → Nat → Int32) (J : Nat → Nat → Int64) (p1 : Int64) (p2 : Int32) : Option (Int64) := ((f_X11_inLowestTerms_13 N I J ρ p1 p2 N (1000000000000 : Int64) (if 0 < p1 then p1 else -p1) (0 : Int32)).bind fun j5 => (if (j5 = (0 : Int64)) then some (-4611686018427387904 : Int64) else (if (p2 = (0 : Int32)) then (if ¬ j5 = 0 then some (p1 / j5) else none) else (if ¬ j5 = 0 then some ((1000000000000 : Int64) / j5) else none))))
theorem c_X11_inLowestTerms {G : Gd} {d N : Nat} {K : Ah → Option Value → Prop} {ρ : Rh} {I : Nat → Nat → Int32} {J : Nat → Nat → Int64} {p1 : Int64} {p2 : Int32} {o : Int64} (hs : Sh ρ) (hf : f_X11_inLowestTerms N ρ I J p1 p2 = some o) (hK : K (I, J, ρ) (some (.long o))) : AM G (d + 1) 0 0 mX11_inLowestTerms [.long p1, .int p2] (I, J, ρ) K := by
  unfold f_X11_inLowestTerms at hf
  refine AM.intro okX11_inLowestTerms.2.2.2.1 (Nat.le_of_ble_eq_true rfl) [some (.long p1), none, some (.int p2), none, none, none, none, none, none, none] rfl ?_
  refine AW.ldc2 dX11_inLowestTerms_0 kcX11_289 ?_
  refine AW.lstore_n (ls' := [some (.long p1), none, some (.int p2), some (.long (1000000000000 : Int64)), none, none, none, none, none, none]) dX11_inLowestTerms_3 (Nat.le_of_ble_eq_true rfl) rfl ?_
  refine AW.lload_n dX11_inLowestTerms_4 rfl ?_
  refine AW.mabsL mtX11_291 dX11_inLowestTerms_5 (Nat.le_of_ble_eq_true rfl) ?_
  refine AW.lstore (ls' := [some (.long p1), none, some (.int p2), some (.long (1000000000000 : Int64)), none, some (.long (if 0 < p1 then p1 else -p1)), none, none, none, none]) dX11_inLowestTerms_8 (Nat.le_of_ble_eq_true rfl) rfl ?_
  refine AW.iconst (v := (0 : Int32)) dX11_inLowestTerms_10 (by decide) ?_
  refine AW.istore (ls' := [some (.long p1), none, some (.int p2), some (.long (1000000000000 : Int64)), none, some (.long (if 0 < p1 then p1 else -p1)), none, some (.int (0 : Int32)), none, none]) dX11_inLowestTerms_11 (Nat.le_of_ble_eq_true rfl) rfl ?_
  obtain ⟨j5, gj5, hf⟩ := ob_split hf
  refine AW.weak _ (by exact (And.intro rfl (And.intro rfl (And.intro rfl (And.intro rfl (And.intro rfl trivial)))))) (l_X11_inLowestTerms_13 hs N (1000000000000 : Int64) (if 0 < p1 then p1 else -p1) (0 : Int32) gj5 ?_)
  show AW G mX11_inLowestTerms (d + 1) 0 0 K 46 [some (.long p1), none, some (.int p2), some (.long j5), none, none, none, none, none, none] [] (I, J, ρ)
  refine AW.lload_n dX11_inLowestTerms_46 rfl ?_
  refine AW.lconst (v := (0 : Int64)) dX11_inLowestTerms_47 (by decide) ?_
  refine AW.lcmp dX11_inLowestTerms_48 ?_
  refine AW.if_ne (tgt := 56) dX11_inLowestTerms_49 (by decide) (fun hc => ?_) (fun hc => ?_)
  · have hc : ¬ (j5 = (0 : Int64)) := fun z => hc ((lc_eq _ _).mpr z); have hf := (if_neg hc).symm.trans hf
    refine AW.iload_n dX11_inLowestTerms_56 rfl ?_
    refine AW.if_ne (tgt := 66) dX11_inLowestTerms_57 (by decide) (fun hc => ?_) (fun hc => ?_)
    · have hf := (if_neg hc).symm.trans hf
      refine AW.ldc2 dX11_inLowestTerms_66 kcX11_289 ?_
      refine AW.lload_n dX11_inLowestTerms_69 rfl ?_
      obtain ⟨h6, hf⟩ := gd_split hf
      refine AW.ldiv (hne := h6) dX11_inLowestTerms_70 ?_
      obtain rfl := Option.some.inj hf
      exact AW.lret (st := []) dX11_inLowestTerms_71 rfl hK
    · have hf := (if_pos hc).symm.trans hf
      refine AW.lload_n dX11_inLowestTerms_60 rfl ?_
      refine AW.lload_n dX11_inLowestTerms_61 rfl ?_
      obtain ⟨h7, hf⟩ := gd_split hf
      refine AW.ldiv (hne := h7) dX11_inLowestTerms_62 ?_
      refine AW.goto (tgt := 71) dX11_inLowestTerms_63 (by decide) ?_
      obtain rfl := Option.some.inj hf
      exact AW.lret (st := []) dX11_inLowestTerms_71 rfl hK
  · have hc : (j5 = (0 : Int64)) := (lc_eq _ _).mp hc; have hf := (if_pos hc).symm.trans hf
    refine AW.ldc2 dX11_inLowestTerms_52 kcX11_175 ?_
    obtain rfl := Option.some.inj hf
    exact AW.lret (st := []) dX11_inLowestTerms_55 rfl hK
def f_X11_isPart (N : Nat) (ρ : Rh) (I : Nat → Nat → Int32) (J : Nat → Nat → Int64) (p1 : Int32) : Option (Int32) := (if (p1 = (0 : Int32)) then some (1 : Int32) else (if (p1 = (1 : Int32)) then some (1 : Int32) else some (0 : Int32)))
theorem c_X11_isPart {G : Gd} {d N : Nat} {K : Ah → Option Value → Prop} {ρ : Rh} {I : Nat → Nat → Int32} {J : Nat → Nat → Int64} {p1 : Int32} {o : Int32} (hs : Sh ρ) (hf : f_X11_isPart N ρ I J p1 = some o) (hK : K (I, J, ρ) (some (.int o))) : AM G d 0 0 mX11_isPart [.int p1] (I, J, ρ) K := by
  unfold f_X11_isPart at hf
  refine AM.intro okX11_isPart.2.2.2.1 (Nat.le_of_ble_eq_true rfl) [some (.int p1)] rfl ?_
  refine AW.iload_n dX11_isPart_0 rfl ?_
  refine AW.if_eq (tgt := 9) dX11_isPart_1 (by decide) (fun hc => ?_) (fun hc => ?_)
  · have hf := (if_pos hc).symm.trans hf
    refine AW.iconst (v := (1 : Int32)) dX11_isPart_9 (by decide) ?_
    refine AW.goto (tgt := 14) dX11_isPart_10 (by decide) ?_
    obtain rfl := Option.some.inj hf
    exact AW.zret (st := []) dX11_isPart_14 rfl (Or.inr rfl) hK
  · have hf := (if_neg hc).symm.trans hf
    refine AW.iload_n dX11_isPart_4 rfl ?_
    refine AW.iconst (v := (1 : Int32)) dX11_isPart_5 (by decide) ?_
    refine AW.icmp_ne (tgt := 13) dX11_isPart_6 (by decide) (fun hc => ?_) (fun hc => ?_)
    · have hf := (if_neg hc).symm.trans hf
      refine AW.iconst (v := (0 : Int32)) dX11_isPart_13 (by decide) ?_
      obtain rfl := Option.some.inj hf
      exact AW.zret (st := []) dX11_isPart_14 rfl (Or.inl rfl) hK
    · have hf := (if_pos hc).symm.trans hf
      refine AW.iconst (v := (1 : Int32)) dX11_isPart_9 (by decide) ?_
      refine AW.goto (tgt := 14) dX11_isPart_10 (by decide) ?_
      obtain rfl := Option.some.inj hf
      exact AW.zret (st := []) dX11_isPart_14 rfl (Or.inr rfl) hK
def f_X11_home (N : Nat) (ρ : Rh) (I : Nat → Nat → Int32) (J : Nat → Nat → Int64) (p1 : Int32) (p2 : Int32) (p3 : Int32) : Option ((Nat → Nat → Int32) × (Nat → Nat → Int64) × (Rh) × Int64) := (Option.bind (f_X11_ruleAt N ρ I J p1) fun v1 => (ocase v1 (some (I, J, ρ, (-4611686018427387904 : Int64))) (fun a2 => (Option.bind (f_X11_isMan N ρ I J p2) fun v3 => (if (v3 = (0 : Int32)) then some (I, J, ρ, (-4611686018427387904 : Int64)) else (Option.bind (f_X11_isPart N ρ I J p3) fun v4 => (if (v4 = (0 : Int32)) then some (I, J, ρ, (-4611686018427387904 : Int64)) else (Option.bind (f_X10_sail N ρ I J a2) fun v5 => (if ¬ (p2 < 0 ∨ 8 ≤ tn p2) then (Option.bind (f_X11_inLowestTerms N v5.2.2 v5.1 v5.2.1 (v5.2.1 78 (tn p2)) p3) fun v7 => some (v5.1, v5.2.1, v5.2.2, v7)) else none)))))))))
theorem c_X11_home {G : Gd} {d N : Nat} {K : Ah → Option Value → Prop} {ρ : Rh} {I : Nat → Nat → Int32} {J : Nat → Nat → Int64} {p1 : Int32} {p2 : Int32} {p3 : Int32} {o : (Nat → Nat → Int32) × (Nat → Nat → Int64) × (Rh) × Int64} (hs : Sh ρ) (hf : f_X11_home N ρ I J p1 p2 p3 = some o) (hK : (Sh o.2.2.1 → K (o.1, o.2.1, o.2.2.1) (some (.long o.2.2.2)))) : AM G (d + 6) 0 0 mX11_home [.ref 32, .int p1, .int p2, .int p3] (I, J, ρ) K := by
  unfold f_X11_home at hf
  refine AM.intro okX11_home.2.2.2.1 (Nat.le_of_ble_eq_true rfl) [some (.ref 32), some (.int p1), some (.int p2), some (.int p3), none] rfl ?_
  refine AW.aload_n dX11_home_0 rfl ?_
  refine AW.iload_n dX11_home_1 rfl ?_
  obtain ⟨v1, gv1, hf⟩ := ob_split hf
  refine TW.invv (as := [.int p1]) (rest := []) viX11_133_11 hs.k32 dX11_home_2 rfl rfl (Nat.le_of_ble_eq_true rfl) (c_X11_ruleAt hs gv1 ?_)
  show AW G mX11_home (d + 6) 0 0 K 5 [some (.ref 32), some (.int p1), some (.int p2), some (.int p3), none] [va_rf v1] (I, J, ρ)
  refine AW.astoreq (ls' := [some (.ref 32), some (.int p1), some (.int p2), some (.int p3), some (va_rf v1)]) dX11_home_5 (Nat.le_of_ble_eq_true rfl) rfl ?_
  refine AW.aloadq dX11_home_7 rfl ?_
  refine AW.ifnull (tgt := 27) dX11_home_9 (by decide) (fun hc => ?_) (fun a2 hc => ?_)
  · have hf := ocase_n hc hf
    try rw [hc]
    show AW G mX11_home (d + 6) 0 0 K 27 [some (.ref 32), some (.int p1), some (.int p2), some (.int p3), some (.null)] [] (I, J, ρ)
    refine AW.ldc2 dX11_home_27 kcX11_175 ?_
    obtain rfl := Option.some.inj hf
    exact AW.lret (st := []) dX11_home_30 rfl ((show Sh ρ → _ from hK) hs)
  · have hf := ocase_s hc hf
    try rw [hc]
    show AW G mX11_home (d + 6) 0 0 K 12 [some (.ref 32), some (.int p1), some (.int p2), some (.int p3), some (.ref a2)] [] (I, J, ρ)
    refine AW.aload_n dX11_home_12 rfl ?_
    refine AW.iload_n dX11_home_13 rfl ?_
    obtain ⟨v3, gv3, hf⟩ := ob_split hf
    refine TW.invv (as := [.int p2]) (rest := []) viX11_81_11 hs.k32 dX11_home_14 rfl rfl (Nat.le_of_ble_eq_true rfl) (c_X11_isMan hs gv3 ?_)
    show AW G mX11_home (d + 6) 0 0 K 17 [some (.ref 32), some (.int p1), some (.int p2), some (.int p3), some (.ref a2)] [.int v3] (I, J, ρ)
    refine AW.if_eq (tgt := 27) dX11_home_17 (by decide) (fun hc => ?_) (fun hc => ?_)
    · have hf := (if_pos hc).symm.trans hf
      refine AW.ldc2 dX11_home_27 kcX11_175 ?_
      obtain rfl := Option.some.inj hf
      exact AW.lret (st := []) dX11_home_30 rfl ((show Sh ρ → _ from hK) hs)
    · have hf := (if_neg hc).symm.trans hf
      refine AW.iload_n dX11_home_20 rfl ?_
      obtain ⟨v4, gv4, hf⟩ := ob_split hf
      refine TW.invs (as := [.int p3]) (rest := []) stX11_172 dX11_home_21 rfl rfl (Nat.le_of_ble_eq_true rfl) (c_X11_isPart hs gv4 ?_)
      show AW G mX11_home (d + 6) 0 0 K 24 [some (.ref 32), some (.int p1), some (.int p2), some (.int p3), some (.ref a2)] [.int v4] (I, J, ρ)
      refine AW.if_ne (tgt := 31) dX11_home_24 (by decide) (fun hc => ?_) (fun hc => ?_)
      · have hf := (if_neg hc).symm.trans hf
        refine AW.aload_n dX11_home_31 rfl ?_
        refine TW.getR fX11_59_11 hs.k32 (rf_some hs.r32_8) dX11_home_32 ?_
        refine AW.aload dX11_home_35 rfl ?_
        obtain ⟨v5, gv5, hf⟩ := ob_split hf
        refine TW.invv (as := [.ref a2]) (rest := []) viX11_177_10 hs.k48 dX11_home_37 rfl rfl (Nat.le_of_ble_eq_true rfl) (c_X10_sail hs gv5 (fun hs => ?_))
        show AW G mX11_home (d + 6) 0 0 K 40 [some (.ref 32), some (.int p1), some (.int p2), some (.int p3), some (.ref a2)] [] (v5.1, v5.2.1, v5.2.2)
        refine AW.aload_n dX11_home_40 rfl ?_
        refine TW.getR fX11_59_11 hs.k32 (rf_some hs.r32_8) dX11_home_41 ?_
        refine TW.getR fX11_181_10 hs.k48 (rf_some hs.r48_5) dX11_home_44 ?_
        refine AW.iload_n dX11_home_47 rfl ?_
        obtain ⟨h6, hf⟩ := gd_split hf
        refine TW.lald (x := (v5.2.1 78 (tn p2))) hs.k78 h6 rfl dX11_home_48 ?_
        refine AW.iload_n dX11_home_49 rfl ?_
        obtain ⟨v7, gv7, hf⟩ := ob_split hf
        refine TW.invs (as := [.long (v5.2.1 78 (tn p2)), .int p3]) (rest := []) stX11_184 dX11_home_50 rfl rfl (Nat.le_of_ble_eq_true rfl) (c_X11_inLowestTerms hs gv7 ?_)
        show AW G mX11_home (d + 6) 0 0 K 53 [some (.ref 32), some (.int p1), some (.int p2), some (.int p3), some (.ref a2)] [.long v7] (v5.1, v5.2.1, v5.2.2)
        obtain rfl := Option.some.inj hf
        exact AW.lret (st := []) dX11_home_53 rfl ((show Sh v5.2.2 → _ from hK) hs)
      · have hf := (if_pos hc).symm.trans hf
        refine AW.ldc2 dX11_home_27 kcX11_175 ?_
        obtain rfl := Option.some.inj hf
        exact AW.lret (st := []) dX11_home_30 rfl ((show Sh ρ → _ from hK) hs)
def f_X11_mean (N : Nat) (ρ : Rh) (I : Nat → Nat → Int32) (J : Nat → Nat → Int64) (p1 : Int32) (p2 : Int32) (p3 : Int32) : Option ((Nat → Nat → Int32) × (Nat → Nat → Int64) × (Rh) × Int64) := (Option.bind (f_X11_ruleAt N ρ I J p1) fun v1 => (ocase v1 (some (I, J, ρ, (-4611686018427387904 : Int64))) (fun a2 => (if (p2 < (0 : Int32)) then some (I, J, ρ, (-4611686018427387904 : Int64)) else (if ((1 : Int32) < p2) then some (I, J, ρ, (-4611686018427387904 : Int64)) else (Option.bind (f_X11_isPart N ρ I J p3) fun v3 => (if (v3 = (0 : Int32)) then some (I, J, ρ, (-4611686018427387904 : Int64)) else (Option.bind (f_X10_sail N ρ I J a2) fun v4 => (Option.bind (f_X10_worth N v4.2.2 v4.1 v4.2.1 p2) fun v5 => (Option.bind (f_X11_inLowestTerms N v4.2.2 v4.1 v4.2.1 v5 p3) fun v6 => some (v4.1, v4.2.1, v4.2.2, v6)))))))))))
theorem c_X11_mean {G : Gd} {d N : Nat} {K : Ah → Option Value → Prop} {ρ : Rh} {I : Nat → Nat → Int32} {J : Nat → Nat → Int64} {p1 : Int32} {p2 : Int32} {p3 : Int32} {o : (Nat → Nat → Int32) × (Nat → Nat → Int64) × (Rh) × Int64} (hs : Sh ρ) (hf : f_X11_mean N ρ I J p1 p2 p3 = some o) (hK : (Sh o.2.2.1 → K (o.1, o.2.1, o.2.2.1) (some (.long o.2.2.2)))) : AM G (d + 6) 0 0 mX11_mean [.ref 32, .int p1, .int p2, .int p3] (I, J, ρ) K := by
  unfold f_X11_mean at hf
  refine AM.intro okX11_mean.2.2.2.1 (Nat.le_of_ble_eq_true rfl) [some (.ref 32), some (.int p1), some (.int p2), some (.int p3), none] rfl ?_
  refine AW.aload_n dX11_mean_0 rfl ?_
  refine AW.iload_n dX11_mean_1 rfl ?_
  obtain ⟨v1, gv1, hf⟩ := ob_split hf
  refine TW.invv (as := [.int p1]) (rest := []) viX11_133_11 hs.k32 dX11_mean_2 rfl rfl (Nat.le_of_ble_eq_true rfl) (c_X11_ruleAt hs gv1 ?_)
  show AW G mX11_mean (d + 6) 0 0 K 5 [some (.ref 32), some (.int p1), some (.int p2), some (.int p3), none] [va_rf v1] (I, J, ρ)
  refine AW.astoreq (ls' := [some (.ref 32), some (.int p1), some (.int p2), some (.int p3), some (va_rf v1)]) dX11_mean_5 (Nat.le_of_ble_eq_true rfl) rfl ?_
  refine AW.aloadq dX11_mean_7 rfl ?_
  refine AW.ifnull (tgt := 28) dX11_mean_9 (by decide) (fun hc => ?_) (fun a2 hc => ?_)
  · have hf := ocase_n hc hf
    try rw [hc]
    show AW G mX11_mean (d + 6) 0 0 K 28 [some (.ref 32), some (.int p1), some (.int p2), some (.int p3), some (.null)] [] (I, J, ρ)
    refine AW.ldc2 dX11_mean_28 kcX11_175 ?_
    obtain rfl := Option.some.inj hf
    exact AW.lret (st := []) dX11_mean_31 rfl ((show Sh ρ → _ from hK) hs)
  · have hf := ocase_s hc hf
    try rw [hc]
    show AW G mX11_mean (d + 6) 0 0 K 12 [some (.ref 32), some (.int p1), some (.int p2), some (.int p3), some (.ref a2)] [] (I, J, ρ)
    refine AW.iload_n dX11_mean_12 rfl ?_
    refine AW.if_lt (tgt := 28) dX11_mean_13 (by decide) (fun hc => ?_) (fun hc => ?_)
    · have hf := (if_pos hc).symm.trans hf
      refine AW.ldc2 dX11_mean_28 kcX11_175 ?_
      obtain rfl := Option.some.inj hf
      exact AW.lret (st := []) dX11_mean_31 rfl ((show Sh ρ → _ from hK) hs)
    · have hf := (if_neg hc).symm.trans hf
      refine AW.iload_n dX11_mean_16 rfl ?_
      refine AW.iconst (v := (1 : Int32)) dX11_mean_17 (by decide) ?_
      refine AW.icmp_gt (tgt := 28) dX11_mean_18 (by decide) (fun hc => ?_) (fun hc => ?_)
      · have hf := (if_pos hc).symm.trans hf
        refine AW.ldc2 dX11_mean_28 kcX11_175 ?_
        obtain rfl := Option.some.inj hf
        exact AW.lret (st := []) dX11_mean_31 rfl ((show Sh ρ → _ from hK) hs)
      · have hf := (if_neg hc).symm.trans hf
        refine AW.iload_n dX11_mean_21 rfl ?_
        obtain ⟨v3, gv3, hf⟩ := ob_split hf
        refine TW.invs (as := [.int p3]) (rest := []) stX11_172 dX11_mean_22 rfl rfl (Nat.le_of_ble_eq_true rfl) (c_X11_isPart hs gv3 ?_)
        show AW G mX11_mean (d + 6) 0 0 K 25 [some (.ref 32), some (.int p1), some (.int p2), some (.int p3), some (.ref a2)] [.int v3] (I, J, ρ)
        refine AW.if_ne (tgt := 32) dX11_mean_25 (by decide) (fun hc => ?_) (fun hc => ?_)
        · have hf := (if_neg hc).symm.trans hf
          refine AW.aload_n dX11_mean_32 rfl ?_
          refine TW.getR fX11_59_11 hs.k32 (rf_some hs.r32_8) dX11_mean_33 ?_
          refine AW.aload dX11_mean_36 rfl ?_
          obtain ⟨v4, gv4, hf⟩ := ob_split hf
          refine TW.invv (as := [.ref a2]) (rest := []) viX11_177_10 hs.k48 dX11_mean_38 rfl rfl (Nat.le_of_ble_eq_true rfl) (c_X10_sail hs gv4 (fun hs => ?_))
          show AW G mX11_mean (d + 6) 0 0 K 41 [some (.ref 32), some (.int p1), some (.int p2), some (.int p3), some (.ref a2)] [] (v4.1, v4.2.1, v4.2.2)
          refine AW.aload_n dX11_mean_41 rfl ?_
          refine TW.getR fX11_59_11 hs.k32 (rf_some hs.r32_8) dX11_mean_42 ?_
          refine AW.iload_n dX11_mean_45 rfl ?_
          obtain ⟨v5, gv5, hf⟩ := ob_split hf
          refine TW.invv (as := [.int p2]) (rest := []) viX11_188_10 hs.k48 dX11_mean_46 rfl rfl (Nat.le_of_ble_eq_true rfl) (c_X10_worth hs gv5 ?_)
          show AW G mX11_mean (d + 6) 0 0 K 49 [some (.ref 32), some (.int p1), some (.int p2), some (.int p3), some (.ref a2)] [.long v5] (v4.1, v4.2.1, v4.2.2)
          refine AW.iload_n dX11_mean_49 rfl ?_
          obtain ⟨v6, gv6, hf⟩ := ob_split hf
          refine TW.invs (as := [.long v5, .int p3]) (rest := []) stX11_184 dX11_mean_50 rfl rfl (Nat.le_of_ble_eq_true rfl) (c_X11_inLowestTerms hs gv6 ?_)
          show AW G mX11_mean (d + 6) 0 0 K 53 [some (.ref 32), some (.int p1), some (.int p2), some (.int p3), some (.ref a2)] [.long v6] (v4.1, v4.2.1, v4.2.2)
          obtain rfl := Option.some.inj hf
          exact AW.lret (st := []) dX11_mean_53 rfl ((show Sh v4.2.2 → _ from hK) hs)
        · have hf := (if_pos hc).symm.trans hf
          refine AW.ldc2 dX11_mean_28 kcX11_175 ?_
          obtain rfl := Option.some.inj hf
          exact AW.lret (st := []) dX11_mean_31 rfl ((show Sh ρ → _ from hK) hs)
def f_X11_told (N : Nat) (ρ : Rh) (I : Nat → Nat → Int32) (J : Nat → Nat → Int64) (p1 : Int32) (p2 : Int32) (p3 : Int32) (p4 : Int32) : Option ((Nat → Nat → Int32) × (Nat → Nat → Int64) × (Rh) × Int32) := (Option.bind (f_X11_ruleAt N ρ I J p1) fun v1 => (ocase v1 (some (I, J, ρ, (-5 : Int32))) (fun a2 => (if (p2 < (0 : Int32)) then some (I, J, ρ, (-5 : Int32)) else (if ((I 45 0) < p2) then some (I, J, ρ, (-5 : Int32)) else (Option.bind (f_X11_isMan N ρ I J p3) fun v3 => (if (v3 = (0 : Int32)) then some (I, J, ρ, (-5 : Int32)) else (if (p4 < (0 : Int32)) then some (I, J, ρ, (-7 : Int32)) else (if ((3 : Int32) < p4) then some (I, J, ρ, (-7 : Int32)) else (((if (p4 = (1 : Int32)) then (if (p2 = (I 45 0)) then some (Sum.inl (I, J, ρ, (-7 : Int32))) else some (Sum.inr ())) else some (Sum.inr ())) : Option (((Nat → Nat → Int32) × (Nat → Nat → Int64) × (Rh) × Int32) ⊕ (Unit))).bind fun j4 => scase j4 (fun r => some r) (fun j4 => (Option.bind (f_X10_sail N ρ I J a2) fun v5 => (if p4 = (0 : Int32) then (if ¬ (p2 < 0 ∨ 13 ≤ tn p2) then (if ¬ (p3 < 0 ∨ 8 ≤ tn p3) then some (v5.1, v5.2.1, v5.2.2, (v5.1 (50 + (tn p2)) (tn p3))) else none) else none) else (if p4 = (1 : Int32) then (if ¬ (p2 < 0 ∨ 12 ≤ tn p2) then (if ¬ (p3 < 0 ∨ 8 ≤ tn p3) then some (v5.1, v5.2.1, v5.2.2, (v5.1 (64 + (tn p2)) (tn p3))) else none) else none) else (if p4 = (2 : Int32) then (if ¬ (p2 < 0 ∨ 13 ≤ tn p2) then some (v5.1, v5.2.1, v5.2.2, (v5.1 76 (tn p2))) else none) else (if ¬ (p2 < 0 ∨ 13 ≤ tn p2) then some (v5.1, v5.2.1, v5.2.2, (v5.1 77 (tn p2))) else none))))))))))))))))
theorem c_X11_told {G : Gd} {d N : Nat} {K : Ah → Option Value → Prop} {ρ : Rh} {I : Nat → Nat → Int32} {J : Nat → Nat → Int64} {p1 : Int32} {p2 : Int32} {p3 : Int32} {p4 : Int32} {o : (Nat → Nat → Int32) × (Nat → Nat → Int64) × (Rh) × Int32} (hs : Sh ρ) (hf : f_X11_told N ρ I J p1 p2 p3 p4 = some o) (hK : (Sh o.2.2.1 → K (o.1, o.2.1, o.2.2.1) (some (.int o.2.2.2)))) : AM G (d + 6) 0 0 mX11_told [.ref 32, .int p1, .int p2, .int p3, .int p4] (I, J, ρ) K := by
  unfold f_X11_told at hf
  refine AM.intro okX11_told.2.2.2.1 (Nat.le_of_ble_eq_true rfl) [some (.ref 32), some (.int p1), some (.int p2), some (.int p3), some (.int p4), none, none] rfl ?_
  refine AW.aload_n dX11_told_0 rfl ?_
  refine AW.iload_n dX11_told_1 rfl ?_
  obtain ⟨v1, gv1, hf⟩ := ob_split hf
  refine TW.invv (as := [.int p1]) (rest := []) viX11_133_11 hs.k32 dX11_told_2 rfl rfl (Nat.le_of_ble_eq_true rfl) (c_X11_ruleAt hs gv1 ?_)
  show AW G mX11_told (d + 6) 0 0 K 5 [some (.ref 32), some (.int p1), some (.int p2), some (.int p3), some (.int p4), none, none] [va_rf v1] (I, J, ρ)
  refine AW.astoreq (ls' := [some (.ref 32), some (.int p1), some (.int p2), some (.int p3), some (.int p4), some (va_rf v1), none]) dX11_told_5 (Nat.le_of_ble_eq_true rfl) rfl ?_
  refine AW.aload_n dX11_told_7 rfl ?_
  refine TW.getR fX11_50_11 hs.k32 (rf_some hs.r32_0) dX11_told_8 ?_
  refine TW.getR fX11_94_0 hs.k42 (rf_some hs.r42_3) dX11_told_11 ?_
  refine AW.iconst (v := (0 : Int32)) dX11_told_14 (by decide) ?_
  refine TW.iald (x := (I 45 0)) hs.k45 (show ¬ ((0 : Int32) < 0 ∨ 4 ≤ (0 : Int32).toNatClampNeg) by decide) rfl dX11_told_15 ?_
  refine AW.istore (ls' := [some (.ref 32), some (.int p1), some (.int p2), some (.int p3), some (.int p4), some (va_rf v1), some (.int (I 45 0))]) dX11_told_16 (Nat.le_of_ble_eq_true rfl) (by generalize v1 = zo; cases zo <;> rfl) ?_
  refine AW.aloadq dX11_told_18 rfl ?_
  refine AW.ifnull (tgt := 41) dX11_told_20 (by decide) (fun hc => ?_) (fun a2 hc => ?_)
  · have hf := ocase_n hc hf
    try rw [hc]
    show AW G mX11_told (d + 6) 0 0 K 41 [some (.ref 32), some (.int p1), some (.int p2), some (.int p3), some (.int p4), some (.null), some (.int (I 45 0))] [] (I, J, ρ)
    refine AW.bipush (v := (-5 : Int32)) dX11_told_41 (by decide) ?_
    obtain rfl := Option.some.inj hf
    exact AW.iret (st := []) dX11_told_43 rfl ((show Sh ρ → _ from hK) hs)
  · have hf := ocase_s hc hf
    try rw [hc]
    show AW G mX11_told (d + 6) 0 0 K 23 [some (.ref 32), some (.int p1), some (.int p2), some (.int p3), some (.int p4), some (.ref a2), some (.int (I 45 0))] [] (I, J, ρ)
    refine AW.iload_n dX11_told_23 rfl ?_
    refine AW.if_lt (tgt := 41) dX11_told_24 (by decide) (fun hc => ?_) (fun hc => ?_)
    · have hf := (if_pos hc).symm.trans hf
      refine AW.bipush (v := (-5 : Int32)) dX11_told_41 (by decide) ?_
      obtain rfl := Option.some.inj hf
      exact AW.iret (st := []) dX11_told_43 rfl ((show Sh ρ → _ from hK) hs)
    · have hf := (if_neg hc).symm.trans hf
      refine AW.iload_n dX11_told_27 rfl ?_
      refine AW.iload dX11_told_28 rfl ?_
      refine AW.icmp_gt (tgt := 41) dX11_told_30 (by decide) (fun hc => ?_) (fun hc => ?_)
      · have hf := (if_pos hc).symm.trans hf
        refine AW.bipush (v := (-5 : Int32)) dX11_told_41 (by decide) ?_
        obtain rfl := Option.some.inj hf
        exact AW.iret (st := []) dX11_told_43 rfl ((show Sh ρ → _ from hK) hs)
      · have hf := (if_neg hc).symm.trans hf
        refine AW.aload_n dX11_told_33 rfl ?_
        refine AW.iload_n dX11_told_34 rfl ?_
        obtain ⟨v3, gv3, hf⟩ := ob_split hf
        refine TW.invv (as := [.int p3]) (rest := []) viX11_81_11 hs.k32 dX11_told_35 rfl rfl (Nat.le_of_ble_eq_true rfl) (c_X11_isMan hs gv3 ?_)
        show AW G mX11_told (d + 6) 0 0 K 38 [some (.ref 32), some (.int p1), some (.int p2), some (.int p3), some (.int p4), some (.ref a2), some (.int (I 45 0))] [.int v3] (I, J, ρ)
        refine AW.if_ne (tgt := 44) dX11_told_38 (by decide) (fun hc => ?_) (fun hc => ?_)
        · have hf := (if_neg hc).symm.trans hf
          refine AW.iload dX11_told_44 rfl ?_
          refine AW.if_lt (tgt := 67) dX11_told_46 (by decide) (fun hc => ?_) (fun hc => ?_)
          · have hf := (if_pos hc).symm.trans hf
            refine AW.bipush (v := (-7 : Int32)) dX11_told_67 (by decide) ?_
            obtain rfl := Option.some.inj hf
            exact AW.iret (st := []) dX11_told_69 rfl ((show Sh ρ → _ from hK) hs)
          · have hf := (if_neg hc).symm.trans hf
            refine AW.iload dX11_told_49 rfl ?_
            refine AW.iconst (v := (3 : Int32)) dX11_told_51 (by decide) ?_
            refine AW.icmp_gt (tgt := 67) dX11_told_52 (by decide) (fun hc => ?_) (fun hc => ?_)
            · have hf := (if_pos hc).symm.trans hf
              refine AW.bipush (v := (-7 : Int32)) dX11_told_67 (by decide) ?_
              obtain rfl := Option.some.inj hf
              exact AW.iret (st := []) dX11_told_69 rfl ((show Sh ρ → _ from hK) hs)
            · have hf := (if_neg hc).symm.trans hf
              refine AW.iload dX11_told_55 rfl ?_
              refine AW.iconst (v := (1 : Int32)) dX11_told_57 (by decide) ?_
              obtain ⟨j4, gj4, hf⟩ := ob_split hf
              have Kj4 : scase j4 (fun r => (Sh r.2.2.1 → K (r.1, r.2.1, r.2.2.1) (some (.int r.2.2.2)))) (fun j4 => AW G mX11_told (d + 6) 0 0 K 70 [some (.ref 32), none, some (.int p2), some (.int p3), some (.int p4), some (.ref a2), none] [] (I, J, ρ)) := by
                rcases j4 with r | j4
                · obtain rfl := Option.some.inj hf; exact hK
                · show AW G mX11_told (d + 6) 0 0 K 70 [some (.ref 32), none, some (.int p2), some (.int p3), some (.int p4), some (.ref a2), none] [] (I, J, ρ)
                  refine AW.aload_n dX11_told_70 rfl ?_
                  refine TW.getR fX11_59_11 hs.k32 (rf_some hs.r32_8) dX11_told_71 ?_
                  refine AW.aload dX11_told_74 rfl ?_
                  obtain ⟨v5, gv5, hf⟩ := ob_split hf
                  refine TW.invv (as := [.ref a2]) (rest := []) viX11_177_10 hs.k48 dX11_told_76 rfl rfl (Nat.le_of_ble_eq_true rfl) (c_X10_sail hs gv5 (fun hs => ?_))
                  show AW G mX11_told (d + 6) 0 0 K 79 [some (.ref 32), none, some (.int p2), some (.int p3), some (.int p4), some (.ref a2), none] [] (v5.1, v5.2.1, v5.2.2)
                  refine AW.iload dX11_told_79 rfl ?_
                  by_cases hc0 : p4 = (0 : Int32)
                  · have hf := (if_pos hc0).symm.trans hf
                    refine AW.swIn (tgt := 108) dX11_told_81 (by rw [hc0]; decide) (by rw [hc0]; decide) (by rw [hc0]; rfl) (by decide) ?_
                    refine AW.aload_n dX11_told_108 rfl ?_
                    refine TW.getR fX11_59_11 hs.k32 (rf_some hs.r32_8) dX11_told_109 ?_
                    refine TW.getR fX11_192_10 hs.k48 (rf_some hs.r48_1) dX11_told_112 ?_
                    refine AW.iload_n dX11_told_115 rfl ?_
                    obtain ⟨h6, hf⟩ := gd_split hf
                    have hl7 : (tn p2) < 13 := vp_lt h6
                    refine TW.aald (t := 3) hs.k49 (by decide) h6 (rf_some (hs.e49 hl7)) dX11_told_116 ?_
                    refine AW.iload_n dX11_told_117 rfl ?_
                    obtain ⟨h8, hf⟩ := gd_split hf
                    refine TW.iald (x := (v5.1 (50 + (tn p2)) (tn p3))) (hs.ek49 hl7) h8 rfl dX11_told_118 ?_
                    obtain rfl := Option.some.inj hf
                    exact AW.iret (st := []) dX11_told_119 rfl ((show Sh v5.2.2 → _ from hK) hs)
                  have hf := (if_neg hc0).symm.trans hf
                  by_cases hc1 : p4 = (1 : Int32)
                  · have hf := (if_pos hc1).symm.trans hf
                    refine AW.swIn (tgt := 120) dX11_told_81 (by rw [hc1]; decide) (by rw [hc1]; decide) (by rw [hc1]; rfl) (by decide) ?_
                    refine AW.aload_n dX11_told_120 rfl ?_
                    refine TW.getR fX11_59_11 hs.k32 (rf_some hs.r32_8) dX11_told_121 ?_
                    refine TW.getR fX11_195_10 hs.k48 (rf_some hs.r48_2) dX11_told_124 ?_
                    refine AW.iload_n dX11_told_127 rfl ?_
                    obtain ⟨h9, hf⟩ := gd_split hf
                    have hl10 : (tn p2) < 12 := vp_lt h9
                    refine TW.aald (t := 3) hs.k63 (by decide) h9 (rf_some (hs.e63 hl10)) dX11_told_128 ?_
                    refine AW.iload_n dX11_told_129 rfl ?_
                    obtain ⟨h11, hf⟩ := gd_split hf
                    refine TW.iald (x := (v5.1 (64 + (tn p2)) (tn p3))) (hs.ek63 hl10) h11 rfl dX11_told_130 ?_
                    obtain rfl := Option.some.inj hf
                    exact AW.iret (st := []) dX11_told_131 rfl ((show Sh v5.2.2 → _ from hK) hs)
                  have hf := (if_neg hc1).symm.trans hf
                  by_cases hc2 : p4 = (2 : Int32)
                  · have hf := (if_pos hc2).symm.trans hf
                    refine AW.swIn (tgt := 132) dX11_told_81 (by rw [hc2]; decide) (by rw [hc2]; decide) (by rw [hc2]; rfl) (by decide) ?_
                    refine AW.aload_n dX11_told_132 rfl ?_
                    refine TW.getR fX11_59_11 hs.k32 (rf_some hs.r32_8) dX11_told_133 ?_
                    refine TW.getR fX11_198_10 hs.k48 (rf_some hs.r48_3) dX11_told_136 ?_
                    refine AW.iload_n dX11_told_139 rfl ?_
                    obtain ⟨h12, hf⟩ := gd_split hf
                    refine TW.iald (x := (v5.1 76 (tn p2))) hs.k76 h12 rfl dX11_told_140 ?_
                    obtain rfl := Option.some.inj hf
                    exact AW.iret (st := []) dX11_told_141 rfl ((show Sh v5.2.2 → _ from hK) hs)
                  have hf := (if_neg hc2).symm.trans hf
                  have KD : AW G mX11_told (d + 6) 0 0 K 142 [some (.ref 32), none, some (.int p2), some (.int p3), some (.int p4), some (.ref a2), none] [] (v5.1, v5.2.1, v5.2.2) := by
                    refine AW.aload_n dX11_told_142 rfl ?_
                    refine TW.getR fX11_59_11 hs.k32 (rf_some hs.r32_8) dX11_told_143 ?_
                    refine TW.getR fX11_201_10 hs.k48 (rf_some hs.r48_4) dX11_told_146 ?_
                    refine AW.iload_n dX11_told_149 rfl ?_
                    obtain ⟨h13, hf⟩ := gd_split hf
                    refine TW.iald (x := (v5.1 77 (tn p2))) hs.k77 h13 rfl dX11_told_150 ?_
                    obtain rfl := Option.some.inj hf
                    exact AW.iret (st := []) dX11_told_151 rfl ((show Sh v5.2.2 → _ from hK) hs)
                  have hc0 : ¬ (p4).toInt = 0 := fun q => hc0 (Int32.toInt_inj.mp q)
                  have hc1 : ¬ (p4).toInt = 1 := fun q => hc1 (Int32.toInt_inj.mp q)
                  have hc2 : ¬ (p4).toInt = 2 := fun q => hc2 (Int32.toInt_inj.mp q)
                  exact AW.swOut dX11_told_81 (by omega) (by decide) KD
              clear hf; have hf := gj4; clear gj4
              refine AW.icmp_ne (tgt := 70) dX11_told_58 (by decide) (fun hc => ?_) (fun hc => ?_)
              · have hf := (if_neg hc).symm.trans hf
                obtain rfl := Option.some.inj hf
                exact AW.weak _ (by exact (And.intro rfl (And.intro rfl (And.intro rfl (And.intro rfl (And.intro rfl trivial)))))) Kj4
              · have hf := (if_pos hc).symm.trans hf
                refine AW.iload_n dX11_told_61 rfl ?_
                refine AW.iload dX11_told_62 rfl ?_
                refine AW.icmp_ne (tgt := 70) dX11_told_64 (by decide) (fun hc => ?_) (fun hc => ?_)
                · have hf := (if_neg hc).symm.trans hf
                  obtain rfl := Option.some.inj hf
                  exact AW.weak _ (by exact (And.intro rfl (And.intro rfl (And.intro rfl (And.intro rfl (And.intro rfl trivial)))))) Kj4
                · have hf := (if_pos hc).symm.trans hf
                  refine AW.bipush (v := (-7 : Int32)) dX11_told_67 (by decide) ?_
                  obtain rfl := Option.some.inj hf
                  exact AW.iret (st := []) dX11_told_69 rfl ((show Sh ρ → _ from Kj4) hs)
        · have hf := (if_pos hc).symm.trans hf
          refine AW.bipush (v := (-5 : Int32)) dX11_told_41 (by decide) ?_
          obtain rfl := Option.some.inj hf
          exact AW.iret (st := []) dX11_told_43 rfl ((show Sh ρ → _ from hK) hs)
def f_X11_ends (N : Nat) (ρ : Rh) (I : Nat → Nat → Int32) (J : Nat → Nat → Int64) (p1 : Int32) (p2 : Int32) : Option ((Nat → Nat → Int32) × (Nat → Nat → Int64) × (Rh) × Int32) := (Option.bind (f_X11_ruleAt N ρ I J p1) fun v1 => (ocase v1 (some (I, J, ρ, (-5 : Int32))) (fun a2 => (if (p2 < (0 : Int32)) then some (I, J, ρ, (-7 : Int32)) else (if (p2 ≤ (2 : Int32)) then (Option.bind (f_X10_sail N ρ I J a2) fun v3 => (if (p2 = (0 : Int32)) then some (v3.1, v3.2.1, v3.2.2, (v3.1 48 16)) else (if (p2 = (1 : Int32)) then (Option.bind (f_X10_living N v3.2.2 v3.1 v3.2.1 (v3.1 45 0)) fun v5 => some (v3.1, v3.2.1, v3.2.2, v5)) else (Option.bind (f_X10_firstDeath N v3.2.2 v3.1 v3.2.1) fun v4 => some (v3.1, v3.2.1, v3.2.2, v4))))) else some (I, J, ρ, (-7 : Int32)))))))
theorem c_X11_ends {G : Gd} {d N : Nat} {K : Ah → Option Value → Prop} {ρ : Rh} {I : Nat → Nat → Int32} {J : Nat → Nat → Int64} {p1 : Int32} {p2 : Int32} {o : (Nat → Nat → Int32) × (Nat → Nat → Int64) × (Rh) × Int32} (hs : Sh ρ) (hf : f_X11_ends N ρ I J p1 p2 = some o) (hK : (Sh o.2.2.1 → K (o.1, o.2.1, o.2.2.1) (some (.int o.2.2.2)))) : AM G (d + 6) 0 0 mX11_ends [.ref 32, .int p1, .int p2] (I, J, ρ) K := by
  unfold f_X11_ends at hf
  refine AM.intro okX11_ends.2.2.2.1 (Nat.le_of_ble_eq_true rfl) [some (.ref 32), some (.int p1), some (.int p2), none] rfl ?_
  refine AW.aload_n dX11_ends_0 rfl ?_
  refine AW.iload_n dX11_ends_1 rfl ?_
  obtain ⟨v1, gv1, hf⟩ := ob_split hf
  refine TW.invv (as := [.int p1]) (rest := []) viX11_133_11 hs.k32 dX11_ends_2 rfl rfl (Nat.le_of_ble_eq_true rfl) (c_X11_ruleAt hs gv1 ?_)
  show AW G mX11_ends (d + 6) 0 0 K 5 [some (.ref 32), some (.int p1), some (.int p2), none] [va_rf v1] (I, J, ρ)
  refine AW.astore_nq (ls' := [some (.ref 32), some (.int p1), some (.int p2), some (va_rf v1)]) dX11_ends_5 (Nat.le_of_ble_eq_true rfl) rfl ?_
  refine AW.aload_nq dX11_ends_6 rfl ?_
  refine AW.ifnonnull (tgt := 13) dX11_ends_7 (by decide) (fun a2 hc => ?_) (fun hc => ?_)
  · have hf := ocase_s hc hf
    try rw [hc]
    show AW G mX11_ends (d + 6) 0 0 K 13 [some (.ref 32), some (.int p1), some (.int p2), some (.ref a2)] [] (I, J, ρ)
    refine AW.iload_n dX11_ends_13 rfl ?_
    refine AW.if_lt (tgt := 22) dX11_ends_14 (by decide) (fun hc => ?_) (fun hc => ?_)
    · have hf := (if_pos hc).symm.trans hf
      refine AW.bipush (v := (-7 : Int32)) dX11_ends_22 (by decide) ?_
      obtain rfl := Option.some.inj hf
      exact AW.iret (st := []) dX11_ends_24 rfl ((show Sh ρ → _ from hK) hs)
    · have hf := (if_neg hc).symm.trans hf
      refine AW.iload_n dX11_ends_17 rfl ?_
      refine AW.iconst (v := (2 : Int32)) dX11_ends_18 (by decide) ?_
      refine AW.icmp_le (tgt := 25) dX11_ends_19 (by decide) (fun hc => ?_) (fun hc => ?_)
      · have hf := (if_pos hc).symm.trans hf
        refine AW.aload_n dX11_ends_25 rfl ?_
        refine TW.getR fX11_59_11 hs.k32 (rf_some hs.r32_8) dX11_ends_26 ?_
        refine AW.aload_n dX11_ends_29 rfl ?_
        obtain ⟨v3, gv3, hf⟩ := ob_split hf
        refine TW.invv (as := [.ref a2]) (rest := []) viX11_177_10 hs.k48 dX11_ends_30 rfl rfl (Nat.le_of_ble_eq_true rfl) (c_X10_sail hs gv3 (fun hs => ?_))
        show AW G mX11_ends (d + 6) 0 0 K 33 [some (.ref 32), some (.int p1), some (.int p2), some (.ref a2)] [] (v3.1, v3.2.1, v3.2.2)
        refine AW.iload_n dX11_ends_33 rfl ?_
        refine AW.if_ne (tgt := 45) dX11_ends_34 (by decide) (fun hc => ?_) (fun hc => ?_)
        · have hf := (if_neg hc).symm.trans hf
          refine AW.iload_n dX11_ends_45 rfl ?_
          refine AW.iconst (v := (1 : Int32)) dX11_ends_46 (by decide) ?_
          refine AW.icmp_ne (tgt := 69) dX11_ends_47 (by decide) (fun hc => ?_) (fun hc => ?_)
          · have hf := (if_neg hc).symm.trans hf
            refine AW.aload_n dX11_ends_69 rfl ?_
            refine TW.getR fX11_59_11 hs.k32 (rf_some hs.r32_8) dX11_ends_70 ?_
            obtain ⟨v4, gv4, hf⟩ := ob_split hf
            refine TW.invv (as := []) (rest := []) viX11_210_10 hs.k48 dX11_ends_73 rfl rfl (Nat.le_of_ble_eq_true rfl) (c_X10_firstDeath hs gv4 ?_)
            show AW G mX11_ends (d + 6) 0 0 K 76 [some (.ref 32), some (.int p1), some (.int p2), some (.ref a2)] [.int v4] (v3.1, v3.2.1, v3.2.2)
            obtain rfl := Option.some.inj hf
            exact AW.iret (st := []) dX11_ends_76 rfl ((show Sh v3.2.2 → _ from hK) hs)
          · have hf := (if_pos hc).symm.trans hf
            refine AW.aload_n dX11_ends_50 rfl ?_
            refine TW.getR fX11_59_11 hs.k32 (rf_some hs.r32_8) dX11_ends_51 ?_
            refine AW.aload_n dX11_ends_54 rfl ?_
            refine TW.getR fX11_50_11 hs.k32 (rf_some hs.r32_0) dX11_ends_55 ?_
            refine TW.getR fX11_94_0 hs.k42 (rf_some hs.r42_3) dX11_ends_58 ?_
            refine AW.iconst (v := (0 : Int32)) dX11_ends_61 (by decide) ?_
            refine TW.iald (x := (v3.1 45 0)) hs.k45 (show ¬ ((0 : Int32) < 0 ∨ 4 ≤ (0 : Int32).toNatClampNeg) by decide) rfl dX11_ends_62 ?_
            obtain ⟨v5, gv5, hf⟩ := ob_split hf
            refine TW.invv (as := [.int (v3.1 45 0)]) (rest := []) viX11_207_10 hs.k48 dX11_ends_63 rfl rfl (Nat.le_of_ble_eq_true rfl) (c_X10_living hs gv5 ?_)
            show AW G mX11_ends (d + 6) 0 0 K 66 [some (.ref 32), some (.int p1), some (.int p2), some (.ref a2)] [.int v5] (v3.1, v3.2.1, v3.2.2)
            refine AW.goto (tgt := 76) dX11_ends_66 (by decide) ?_
            obtain rfl := Option.some.inj hf
            exact AW.iret (st := []) dX11_ends_76 rfl ((show Sh v3.2.2 → _ from hK) hs)
        · have hf := (if_pos hc).symm.trans hf
          refine AW.aload_n dX11_ends_37 rfl ?_
          refine TW.getR fX11_59_11 hs.k32 (rf_some hs.r32_8) dX11_ends_38 ?_
          refine TW.getI (x := (v3.1 48 16)) fX11_204_10 hs.k48 rfl dX11_ends_41 ?_
          obtain rfl := Option.some.inj hf
          exact AW.iret (st := []) dX11_ends_44 rfl ((show Sh v3.2.2 → _ from hK) hs)
      · have hf := (if_neg hc).symm.trans hf
        refine AW.bipush (v := (-7 : Int32)) dX11_ends_22 (by decide) ?_
        obtain rfl := Option.some.inj hf
        exact AW.iret (st := []) dX11_ends_24 rfl ((show Sh ρ → _ from hK) hs)
  · have hf := ocase_n hc hf
    try rw [hc]
    show AW G mX11_ends (d + 6) 0 0 K 10 [some (.ref 32), some (.int p1), some (.int p2), some (.null)] [] (I, J, ρ)
    refine AW.bipush (v := (-5 : Int32)) dX11_ends_10 (by decide) ?_
    obtain rfl := Option.some.inj hf
    exact AW.iret (st := []) dX11_ends_12 rfl ((show Sh ρ → _ from hK) hs)
