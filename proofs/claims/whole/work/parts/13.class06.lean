/-! ===== methods 13.class 6 ===== -/
def f_X11_isPart (N : Nat) (ρ : Rh) (I : Nat → Nat → Int32) (J : Nat → Nat → Int64) (p1 : Int32) : Option (Int32) := (if (p1 = (0 : Int32)) then some (1 : Int32) else (if (p1 = (1 : Int32)) then some (1 : Int32) else some (0 : Int32)))
theorem c_X11_isPart {G : Gd} {d N : Nat} {K : Ah → Option Value → Prop} {ρ : Rh} {I : Nat → Nat → Int32} {J : Nat → Nat → Int64} {p1 : Int32} {o : Int32} (hs : Sh ρ) (hf : f_X11_isPart N ρ I J p1 = some o) (hK : K (I, J, ρ) (some (.int o))) : AM G d 0 0 mX11_isPart [.int p1] (I, J, ρ) K := by
  unfold f_X11_isPart at hf
  refine AM.intro okX11_isPart.2.2.2.1 (Nat.le_of_ble_eq_true rfl) [some (.int p1)] rfl ?_
  refine AW.iload_n dX11_isPart_0 rfl ?_
  refine AW.if_eq (tgt := 9) dX11_isPart_1 (by decide) (fun hc => ?_) (fun hc => ?_)
  · have hf := (if_pos hc).symm.trans hf
    refine AW.iconst (v := (1 : Int32)) dX11_isPart_9 (by decide) ?_
    refine AW.goto (tgt := 14) dX11_isPart_10 (by decide) ?_
    obtain rfl := Option.some.inj hf
    exact AW.zret (st := []) dX11_isPart_14 rfl (Or.inr rfl) hK
  · have hf := (if_neg hc).symm.trans hf
    refine AW.iload_n dX11_isPart_4 rfl ?_
    refine AW.iconst (v := (1 : Int32)) dX11_isPart_5 (by decide) ?_
    refine AW.icmp_ne (tgt := 13) dX11_isPart_6 (by decide) (fun hc => ?_) (fun hc => ?_)
    · have hf := (if_neg hc).symm.trans hf
      refine AW.iconst (v := (0 : Int32)) dX11_isPart_13 (by decide) ?_
      obtain rfl := Option.some.inj hf
      exact AW.zret (st := []) dX11_isPart_14 rfl (Or.inl rfl) hK
    · have hf := (if_pos hc).symm.trans hf
      refine AW.iconst (v := (1 : Int32)) dX11_isPart_9 (by decide) ?_
      refine AW.goto (tgt := 14) dX11_isPart_10 (by decide) ?_
      obtain rfl := Option.some.inj hf
      exact AW.zret (st := []) dX11_isPart_14 rfl (Or.inr rfl) hK
def f_X11_home (N : Nat) (ρ : Rh) (I : Nat → Nat → Int32) (J : Nat → Nat → Int64) (p1 : Int32) (p2 : Int32) (p3 : Int32) : Option ((Nat → Nat → Int32) × (Nat → Nat → Int64) × (Rh) × Int64) := (Option.bind (f_X11_ruleAt N ρ I J p1) fun v1 => (ocase v1 (some (I, J, ρ, (-4611686018427387904 : Int64))) (fun a2 => (Option.bind (f_X11_isMan N ρ I J p2) fun v3 => (if (v3 = (0 : Int32)) then some (I, J, ρ, (-4611686018427387904 : Int64)) else (Option.bind (f_X11_isPart N ρ I J p3) fun v4 => (if (v4 = (0 : Int32)) then some (I, J, ρ, (-4611686018427387904 : Int64)) else (Option.bind (f_X10_sail N ρ I J a2) fun v5 => (if ¬ (p2 < 0 ∨ 8 ≤ tn p2) then (Option.bind (f_X11_inLowestTerms N v5.2.2 v5.1 v5.2.1 (v5.2.1 78 (tn p2)) p3) fun v7 => some (v5.1, v5.2.1, v5.2.2, v7)) else none)))))))))
theorem c_X11_home {G : Gd} {d N : Nat} {K : Ah → Option Value → Prop} {ρ : Rh} {I : Nat → Nat → Int32} {J : Nat → Nat → Int64} {p1 : Int32} {p2 : Int32} {p3 : Int32} {o : (Nat → Nat → Int32) × (Nat → Nat → Int64) × (Rh) × Int64} (hs : Sh ρ) (hf : f_X11_home N ρ I J p1 p2 p3 = some o) (hK : (Sh o.2.2.1 → K (o.1, o.2.1, o.2.2.1) (some (.long o.2.2.2)))) : AM G (d + 6) 0 0 mX11_home [.ref 32, .int p1, .int p2, .int p3] (I, J, ρ) K := by
  unfold f_X11_home at hf
  refine AM.intro okX11_home.2.2.2.1 (Nat.le_of_ble_eq_true rfl) [some (.ref 32), some (.int p1), some (.int p2), some (.int p3), none] rfl ?_
  refine AW.aload_n dX11_home_0 rfl ?_
  refine AW.iload_n dX11_home_1 rfl ?_
  obtain ⟨v1, gv1, hf⟩ := ob_split hf
  refine TW.invv (as := [.int p1]) (rest := []) viX11_133_11 hs.k32 dX11_home_2 rfl rfl (Nat.le_of_ble_eq_true rfl) (c_X11_ruleAt hs gv1 ?_)
  show AW G mX11_home (d + 6) 0 0 K 5 [some (.ref 32), some (.int p1), some (.int p2), some (.int p3), none] [va_rf v1] (I, J, ρ)
  refine AW.astoreq (ls' := [some (.ref 32), some (.int p1), some (.int p2), some (.int p3), some (va_rf v1)]) dX11_home_5 (Nat.le_of_ble_eq_true rfl) rfl ?_
  refine AW.aloadq dX11_home_7 rfl ?_
  refine AW.ifnull (tgt := 27) dX11_home_9 (by decide) (fun hc => ?_) (fun a2 hc => ?_)
  · have hf := ocase_n hc hf
    try rw [hc]
    show AW G mX11_home (d + 6) 0 0 K 27 [some (.ref 32), some (.int p1), some (.int p2), some (.int p3), some (.null)] [] (I, J, ρ)
    refine AW.ldc2 dX11_home_27 kcX11_175 ?_
    obtain rfl := Option.some.inj hf
    exact AW.lret (st := []) dX11_home_30 rfl ((show Sh ρ → _ from hK) hs)
  · have hf := ocase_s hc hf
    try rw [hc]
    show AW G mX11_home (d + 6) 0 0 K 12 [some (.ref 32), some (.int p1), some (.int p2), some (.int p3), some (.ref a2)] [] (I, J, ρ)
    refine AW.aload_n dX11_home_12 rfl ?_
    refine AW.iload_n dX11_home_13 rfl ?_
    obtain ⟨v3, gv3, hf⟩ := ob_split hf
    refine TW.invv (as := [.int p2]) (rest := []) viX11_81_11 hs.k32 dX11_home_14 rfl rfl (Nat.le_of_ble_eq_true rfl) (c_X11_isMan hs gv3 ?_)
    show AW G mX11_home (d + 6) 0 0 K 17 [some (.ref 32), some (.int p1), some (.int p2), some (.int p3), some (.ref a2)] [.int v3] (I, J, ρ)
    refine AW.if_eq (tgt := 27) dX11_home_17 (by decide) (fun hc => ?_) (fun hc => ?_)
    · have hf := (if_pos hc).symm.trans hf
      refine AW.ldc2 dX11_home_27 kcX11_175 ?_
      obtain rfl := Option.some.inj hf
      exact AW.lret (st := []) dX11_home_30 rfl ((show Sh ρ → _ from hK) hs)
    · have hf := (if_neg hc).symm.trans hf
      refine AW.iload_n dX11_home_20 rfl ?_
      obtain ⟨v4, gv4, hf⟩ := ob_split hf
      refine TW.invs (as := [.int p3]) (rest := []) stX11_172 dX11_home_21 rfl rfl (Nat.le_of_ble_eq_true rfl) (c_X11_isPart hs gv4 ?_)
      show AW G mX11_home (d + 6) 0 0 K 24 [some (.ref 32), some (.int p1), some (.int p2), some (.int p3), some (.ref a2)] [.int v4] (I, J, ρ)
      refine AW.if_ne (tgt := 31) dX11_home_24 (by decide) (fun hc => ?_) (fun hc => ?_)
      · have hf := (if_neg hc).symm.trans hf
        refine AW.aload_n dX11_home_31 rfl ?_
        refine TW.getR fX11_59_11 hs.k32 (rf_some hs.r32_8) dX11_home_32 ?_
        refine AW.aload dX11_home_35 rfl ?_
        obtain ⟨v5, gv5, hf⟩ := ob_split hf
        refine TW.invv (as := [.ref a2]) (rest := []) viX11_177_10 hs.k48 dX11_home_37 rfl rfl (Nat.le_of_ble_eq_true rfl) (c_X10_sail hs gv5 (fun hs => ?_))
        show AW G mX11_home (d + 6) 0 0 K 40 [some (.ref 32), some (.int p1), some (.int p2), some (.int p3), some (.ref a2)] [] (v5.1, v5.2.1, v5.2.2)
        refine AW.aload_n dX11_home_40 rfl ?_
        refine TW.getR fX11_59_11 hs.k32 (rf_some hs.r32_8) dX11_home_41 ?_
        refine TW.getR fX11_181_10 hs.k48 (rf_some hs.r48_5) dX11_home_44 ?_
        refine AW.iload_n dX11_home_47 rfl ?_
        obtain ⟨h6, hf⟩ := gd_split hf
        refine TW.lald (x := (v5.2.1 78 (tn p2))) hs.k78 h6 rfl dX11_home_48 ?_
        refine AW.iload_n dX11_home_49 rfl ?_
        obtain ⟨v7, gv7, hf⟩ := ob_split hf
        refine TW.invs (as := [.long (v5.2.1 78 (tn p2)), .int p3]) (rest := []) stX11_184 dX11_home_50 rfl rfl (Nat.le_of_ble_eq_true rfl) (c_X11_inLowestTerms hs gv7 ?_)
        show AW G mX11_home (d + 6) 0 0 K 53 [some (.ref 32), some (.int p1), some (.int p2), some (.int p3), some (.ref a2)] [.long v7] (v5.1, v5.2.1, v5.2.2)
        obtain rfl := Option.some.inj hf
        exact AW.lret (st := []) dX11_home_53 rfl ((show Sh v5.2.2 → _ from hK) hs)
      · have hf := (if_pos hc).symm.trans hf
        refine AW.ldc2 dX11_home_27 kcX11_175 ?_
        obtain rfl := Option.some.inj hf
        exact AW.lret (st := []) dX11_home_30 rfl ((show Sh ρ → _ from hK) hs)
def f_X11_mean (N : Nat) (ρ : Rh) (I : Nat → Nat → Int32) (J : Nat → Nat → Int64) (p1 : Int32) (p2 : Int32) (p3 : Int32) : Option ((Nat → Nat → Int32) × (Nat → Nat → Int64) × (Rh) × Int64) := (Option.bind (f_X11_ruleAt N ρ I J p1) fun v1 => (ocase v1 (some (I, J, ρ, (-4611686018427387904 : Int64))) (fun a2 => (if (p2 < (0 : Int32)) then some (I, J, ρ, (-4611686018427387904 : Int64)) else (if ((1 : Int32) < p2) then some (I, J, ρ, (-4611686018427387904 : Int64)) else (Option.bind (f_X11_isPart N ρ I J p3) fun v3 => (if (v3 = (0 : Int32)) then some (I, J, ρ, (-4611686018427387904 : Int64)) else (Option.bind (f_X10_sail N ρ I J a2) fun v4 => (Option.bind (f_X10_worth N v4.2.2 v4.1 v4.2.1 p2) fun v5 => (Option.bind (f_X11_inLowestTerms N v4.2.2 v4.1 v4.2.1 v5 p3) fun v6 => some (v4.1, v4.2.1, v4.2.2, v6)))))))))))
theorem c_X11_mean {G : Gd} {d N : Nat} {K : Ah → Option Value → Prop} {ρ : Rh} {I : Nat → Nat → Int32} {J : Nat → Nat → Int64} {p1 : Int32} {p2 : Int32} {p3 : Int32} {o : (Nat → Nat → Int32) × (Nat → Nat → Int64) × (Rh) × Int64} (hs : Sh ρ) (hf : f_X11_mean N ρ I J p1 p2 p3 = some o) (hK : (Sh o.2.2.1 → K (o.1, o.2.1, o.2.2.1) (some (.long o.2.2.2)))) : AM G (d + 6) 0 0 mX11_mean [.ref 32, .int p1, .int p2, .int p3] (I, J, ρ) K := by
  unfold f_X11_mean at hf
  refine AM.intro okX11_mean.2.2.2.1 (Nat.le_of_ble_eq_true rfl) [some (.ref 32), some (.int p1), some (.int p2), some (.int p3), none] rfl ?_
  refine AW.aload_n dX11_mean_0 rfl ?_
  refine AW.iload_n dX11_mean_1 rfl ?_
  obtain ⟨v1, gv1, hf⟩ := ob_split hf
  refine TW.invv (as := [.int p1]) (rest := []) viX11_133_11 hs.k32 dX11_mean_2 rfl rfl (Nat.le_of_ble_eq_true rfl) (c_X11_ruleAt hs gv1 ?_)
  show AW G mX11_mean (d + 6) 0 0 K 5 [some (.ref 32), some (.int p1), some (.int p2), some (.int p3), none] [va_rf v1] (I, J, ρ)
  refine AW.astoreq (ls' := [some (.ref 32), some (.int p1), some (.int p2), some (.int p3), some (va_rf v1)]) dX11_mean_5 (Nat.le_of_ble_eq_true rfl) rfl ?_
  refine AW.aloadq dX11_mean_7 rfl ?_
  refine AW.ifnull (tgt := 28) dX11_mean_9 (by decide) (fun hc => ?_) (fun a2 hc => ?_)
  · have hf := ocase_n hc hf
    try rw [hc]
    show AW G mX11_mean (d + 6) 0 0 K 28 [some (.ref 32), some (.int p1), some (.int p2), some (.int p3), some (.null)] [] (I, J, ρ)
    refine AW.ldc2 dX11_mean_28 kcX11_175 ?_
    obtain rfl := Option.some.inj hf
    exact AW.lret (st := []) dX11_mean_31 rfl ((show Sh ρ → _ from hK) hs)
  · have hf := ocase_s hc hf
    try rw [hc]
    show AW G mX11_mean (d + 6) 0 0 K 12 [some (.ref 32), some (.int p1), some (.int p2), some (.int p3), some (.ref a2)] [] (I, J, ρ)
    refine AW.iload_n dX11_mean_12 rfl ?_
    refine AW.if_lt (tgt := 28) dX11_mean_13 (by decide) (fun hc => ?_) (fun hc => ?_)
    · have hf := (if_pos hc).symm.trans hf
      refine AW.ldc2 dX11_mean_28 kcX11_175 ?_
      obtain rfl := Option.some.inj hf
      exact AW.lret (st := []) dX11_mean_31 rfl ((show Sh ρ → _ from hK) hs)
    · have hf := (if_neg hc).symm.trans hf
      refine AW.iload_n dX11_mean_16 rfl ?_
      refine AW.iconst (v := (1 : Int32)) dX11_mean_17 (by decide) ?_
      refine AW.icmp_gt (tgt := 28) dX11_mean_18 (by decide) (fun hc => ?_) (fun hc => ?_)
      · have hf := (if_pos hc).symm.trans hf
        refine AW.ldc2 dX11_mean_28 kcX11_175 ?_
        obtain rfl := Option.some.inj hf
        exact AW.lret (st := []) dX11_mean_31 rfl ((show Sh ρ → _ from hK) hs)
      · have hf := (if_neg hc).symm.trans hf
        refine AW.iload_n dX11_mean_21 rfl ?_
        obtain ⟨v3, gv3, hf⟩ := ob_split hf
        refine TW.invs (as := [.int p3]) (rest := []) stX11_172 dX11_mean_22 rfl rfl (Nat.le_of_ble_eq_true rfl) (c_X11_isPart hs gv3 ?_)
        show AW G mX11_mean (d + 6) 0 0 K 25 [some (.ref 32), some (.int p1), some (.int p2), some (.int p3), some (.ref a2)] [.int v3] (I, J, ρ)
        refine AW.if_ne (tgt := 32) dX11_mean_25 (by decide) (fun hc => ?_) (fun hc => ?_)
        · have hf := (if_neg hc).symm.trans hf
          refine AW.aload_n dX11_mean_32 rfl ?_
          refine TW.getR fX11_59_11 hs.k32 (rf_some hs.r32_8) dX11_mean_33 ?_
          refine AW.aload dX11_mean_36 rfl ?_
          obtain ⟨v4, gv4, hf⟩ := ob_split hf
          refine TW.invv (as := [.ref a2]) (rest := []) viX11_177_10 hs.k48 dX11_mean_38 rfl rfl (Nat.le_of_ble_eq_true rfl) (c_X10_sail hs gv4 (fun hs => ?_))
          show AW G mX11_mean (d + 6) 0 0 K 41 [some (.ref 32), some (.int p1), some (.int p2), some (.int p3), some (.ref a2)] [] (v4.1, v4.2.1, v4.2.2)
          refine AW.aload_n dX11_mean_41 rfl ?_
          refine TW.getR fX11_59_11 hs.k32 (rf_some hs.r32_8) dX11_mean_42 ?_
          refine AW.iload_n dX11_mean_45 rfl ?_
          obtain ⟨v5, gv5, hf⟩ := ob_split hf
          refine TW.invv (as := [.int p2]) (rest := []) viX11_188_10 hs.k48 dX11_mean_46 rfl rfl (Nat.le_of_ble_eq_true rfl) (c_X10_worth hs gv5 ?_)
          show AW G mX11_mean (d + 6) 0 0 K 49 [some (.ref 32), some (.int p1), some (.int p2), some (.int p3), some (.ref a2)] [.long v5] (v4.1, v4.2.1, v4.2.2)
          refine AW.iload_n dX11_mean_49 rfl ?_
          obtain ⟨v6, gv6, hf⟩ := ob_split hf
          refine TW.invs (as := [.long v5, .int p3]) (rest := []) stX11_184 dX11_mean_50 rfl rfl (Nat.le_of_ble_eq_true rfl) (c_X11_inLowestTerms hs gv6 ?_)
          show AW G mX11_mean (d + 6) 0 0 K 53 [some (.ref 32), some (.int p1), some (.int p2), some (.int p3), some (.ref a2)] [.long v6] (v4.1, v4.2.1, v4.2.2)
          obtain rfl := Option.some.inj hf
          exact AW.lret (st := []) dX11_mean_53 rfl ((show Sh v4.2.2 → _ from hK) hs)
        · have hf := (if_pos hc).symm.trans hf
          refine AW.ldc2 dX11_mean_28 kcX11_175 ?_
          obtain rfl := Option.some.inj hf
          exact AW.lret (st := []) dX11_mean_31 rfl ((show Sh ρ → _ from hK) hs)
def f_X11_told (N : Nat) (ρ : Rh) (I : Nat → Nat → Int32) (J : Nat → Nat → Int64) (p1 : Int32) (p2 : Int32) (p3 : Int32) (p4 : Int32) : Option ((Nat → Nat → Int32) × (Nat → Nat → Int64) × (Rh) × Int32) := (Option.bind (f_X11_ruleAt N ρ I J p1) fun v1 => (ocase v1 (some (I, J, ρ, (-5 : Int32))) (fun a2 => (if (p2 < (0 : Int32)) then some (I, J, ρ, (-5 : Int32)) else (if ((I 45 0) < p2) then some (I, J, ρ, (-5 : Int32)) else (Option.bind (f_X11_isMan N ρ I J p3) fun v3 => (if (v3 = (0 : Int32)) then some (I, J, ρ, (-5 : Int32)) else (if (p4 < (0 : Int32)) then some (I, J, ρ, (-7 : Int32)) else (if ((3 : Int32) < p4) then some (I, J, ρ, (-7 : Int32)) else (((if (p4 = (1 : Int32)) then (if (p2 = (I 45 0)) then some (Sum.inl (I, J, ρ, (-7 : Int32))) else some (Sum.inr ())) else some (Sum.inr ())) : Option (((Nat → Nat → Int32) × (Nat → Nat → Int64) × (Rh) × Int32) ⊕ (Unit))).bind fun j4 => scase j4 (fun r => some r) (fun j4 => (Option.bind (f_X10_sail N ρ I J a2) fun v5 => (if p4 = (0 : Int32) then (if ¬ (p2 < 0 ∨ 13 ≤ tn p2) then (if ¬ (p3 < 0 ∨ 8 ≤ tn p3) then some (v5.1, v5.2.1, v5.2.2, (v5.1 (50 + (tn p2)) (tn p3))) else none) else none) else (if p4 = (1 : Int32) then (if ¬ (p2 < 0 ∨ 12 ≤ tn p2) then (if ¬ (p3 < 0 ∨ 8 ≤ tn p3) then some (v5.1, v5.2.1, v5.2.2, (v5.1 (64 + (tn p2)) (tn p3))) else none) else none) else (if p4 = (2 : Int32) then (if ¬ (p2 < 0 ∨ 13 ≤ tn p2) then some (v5.1, v5.2.1, v5.2.2, (v5.1 76 (tn p2))) else none) else (if ¬ (p2 < 0 ∨ 13 ≤ tn p2) then some (v5.1, v5.2.1, v5.2.2, (v5.1 77 (tn p2))) else none))))))))))))))))
theorem c_X11_told {G : Gd} {d N : Nat} {K : Ah → Option Value → Prop} {ρ : Rh} {I : Nat → Nat → Int32} {J : Nat → Nat → Int64} {p1 : Int32} {p2 : Int32} {p3 : Int32} {p4 : Int32} {o : (Nat → Nat → Int32) × (Nat → Nat → Int64) × (Rh) × Int32} (hs : Sh ρ) (hf : f_X11_told N ρ I J p1 p2 p3 p4 = some o) (hK : (Sh o.2.2.1 → K (o.1, o.2.1, o.2.2.1) (some (.int o.2.2.2)))) : AM G (d + 6) 0 0 mX11_told [.ref 32, .int p1, .int p2, .int p3, .int p4] (I, J, ρ) K := by
  unfold f_X11_told at hf
  refine AM.intro okX11_told.2.2.2.1 (Nat.le_of_ble_eq_true rfl) [some (.ref 32), some (.int p1), some (.int p2), some (.int p3), some (.int p4), none, none] rfl ?_
  refine AW.aload_n dX11_told_0 rfl ?_
  refine AW.iload_n dX11_told_1 rfl ?_
  obtain ⟨v1, gv1, hf⟩ := ob_split hf
  refine TW.invv (as := [.int p1]) (rest := []) viX11_133_11 hs.k32 dX11_told_2 rfl rfl (Nat.le_of_ble_eq_true rfl) (c_X11_ruleAt hs gv1 ?_)
  show AW G mX11_told (d + 6) 0 0 K 5 [some (.ref 32), some (.int p1), some (.int p2), some (.int p3), some (.int p4), none, none] [va_rf v1] (I, J, ρ)
  refine AW.astoreq (ls' := [some (.ref 32), some (.int p1), some (.int p2), some (.int p3), some (.int p4), some (va_rf v1), none]) dX11_told_5 (Nat.le_of_ble_eq_true rfl) rfl ?_
  refine AW.aload_n dX11_told_7 rfl ?_
  refine TW.getR fX11_50_11 hs.k32 (rf_some hs.r32_0) dX11_told_8 ?_
  refine TW.getR fX11_94_0 hs.k42 (rf_some hs.r42_3) dX11_told_11 ?_
  refine AW.iconst (v := (0 : Int32)) dX11_told_14 (by decide) ?_
  refine TW.iald (x := (I 45 0)) hs.k45 (show ¬ ((0 : Int32) < 0 ∨ 4 ≤ (0 : Int32).toNatClampNeg) by decide) rfl dX11_told_15 ?_
  refine AW.istore (ls' := [some (.ref 32), some (.int p1), some (.int p2), some (.int p3), some (.int p4), some (va_rf v1), some (.int (I 45 0))]) dX11_told_16 (Nat.le_of_ble_eq_true rfl) (by generalize v1 = zo; cases zo <;> rfl) ?_
  refine AW.aloadq dX11_told_18 rfl ?_
  refine AW.ifnull (tgt := 41) dX11_told_20 (by decide) (fun hc => ?_) (fun a2 hc => ?_)
  · have hf := ocase_n hc hf
    try rw [hc]
    show AW G mX11_told (d + 6) 0 0 K 41 [some (.ref 32), some (.int p1), some (.int p2), some (.int p3), some (.int p4), some (.null), some (.int (I 45 0))] [] (I, J, ρ)
    refine AW.bipush (v := (-5 : Int32)) dX11_told_41 (by decide) ?_
    obtain rfl := Option.some.inj hf
    exact AW.iret (st := []) dX11_told_43 rfl ((show Sh ρ → _ from hK) hs)
  · have hf := ocase_s hc hf
    try rw [hc]
    show AW G mX11_told (d + 6) 0 0 K 23 [some (.ref 32), some (.int p1), some (.int p2), some (.int p3), some (.int p4), some (.ref a2), some (.int (I 45 0))] [] (I, J, ρ)
    refine AW.iload_n dX11_told_23 rfl ?_
    refine AW.if_lt (tgt := 41) dX11_told_24 (by decide) (fun hc => ?_) (fun hc => ?_)
    · have hf := (if_pos hc).symm.trans hf
      refine AW.bipush (v := (-5 : Int32)) dX11_told_41 (by decide) ?_
      obtain rfl := Option.some.inj hf
      exact AW.iret (st := []) dX11_told_43 rfl ((show Sh ρ → _ from hK) hs)
    · have hf := (if_neg hc).symm.trans hf
      refine AW.iload_n dX11_told_27 rfl ?_
      refine AW.iload dX11_told_28 rfl ?_
      refine AW.icmp_gt (tgt := 41) dX11_told_30 (by decide) (fun hc => ?_) (fun hc => ?_)
      · have hf := (if_pos hc).symm.trans hf
        refine AW.bipush (v := (-5 : Int32)) dX11_told_41 (by decide) ?_
        obtain rfl := Option.some.inj hf
        exact AW.iret (st := []) dX11_told_43 rfl ((show Sh ρ → _ from hK) hs)
      · have hf := (if_neg hc).symm.trans hf
        refine AW.aload_n dX11_told_33 rfl ?_
        refine AW.iload_n dX11_told_34 rfl ?_
        obtain ⟨v3, gv3, hf⟩ := ob_split hf
        refine TW.invv (as := [.int p3]) (rest := []) viX11_81_11 hs.k32 dX11_told_35 rfl rfl (Nat.le_of_ble_eq_true rfl) (c_X11_isMan hs gv3 ?_)
        show AW G mX11_told (d + 6) 0 0 K 38 [some (.ref 32), some (.int p1), some (.int p2), some (.int p3), some (.int p4), some (.ref a2), some (.int (I 45 0))] [.int v3] (I, J, ρ)
        refine AW.if_ne (tgt := 44) dX11_told_38 (by decide) (fun hc => ?_) (fun hc => ?_)
        · have hf := (if_neg hc).symm.trans hf
          refine AW.iload dX11_told_44 rfl ?_
          refine AW.if_lt (tgt := 67) dX11_told_46 (by decide) (fun hc => ?_) (fun hc => ?_)
          · have hf := (if_pos hc).symm.trans hf
            refine AW.bipush (v := (-7 : Int32)) dX11_told_67 (by decide) ?_
            obtain rfl := Option.some.inj hf
            exact AW.iret (st := []) dX11_told_69 rfl ((show Sh ρ → _ from hK) hs)
          · have hf := (if_neg hc).symm.trans hf
            refine AW.iload dX11_told_49 rfl ?_
            refine AW.iconst (v := (3 : Int32)) dX11_told_51 (by decide) ?_
            refine AW.icmp_gt (tgt := 67) dX11_told_52 (by decide) (fun hc => ?_) (fun hc => ?_)
            · have hf := (if_pos hc).symm.trans hf
              refine AW.bipush (v := (-7 : Int32)) dX11_told_67 (by decide) ?_
              obtain rfl := Option.some.inj hf
              exact AW.iret (st := []) dX11_told_69 rfl ((show Sh ρ → _ from hK) hs)
            · have hf := (if_neg hc).symm.trans hf
              refine AW.iload dX11_told_55 rfl ?_
              refine AW.iconst (v := (1 : Int32)) dX11_told_57 (by decide) ?_
              obtain ⟨j4, gj4, hf⟩ := ob_split hf
              have Kj4 : scase j4 (fun r => (Sh r.2.2.1 → K (r.1, r.2.1, r.2.2.1) (some (.int r.2.2.2)))) (fun j4 => AW G mX11_told (d + 6) 0 0 K 70 [some (.ref 32), none, some (.int p2), some (.int p3), some (.int p4), some (.ref a2), none] [] (I, J, ρ)) := by
                rcases j4 with r | j4
                · obtain rfl := Option.some.inj hf; exact hK
                · show AW G mX11_told (d + 6) 0 0 K 70 [some (.ref 32), none, some (.int p2), some (.int p3), some (.int p4), some (.ref a2), none] [] (I, J, ρ)
                  refine AW.aload_n dX11_told_70 rfl ?_
                  refine TW.getR fX11_59_11 hs.k32 (rf_some hs.r32_8) dX11_told_71 ?_
                  refine AW.aload dX11_told_74 rfl ?_
                  obtain ⟨v5, gv5, hf⟩ := ob_split hf
                  refine TW.invv (as := [.ref a2]) (rest := []) viX11_177_10 hs.k48 dX11_told_76 rfl rfl (Nat.le_of_ble_eq_true rfl) (c_X10_sail hs gv5 (fun hs => ?_))
                  show AW G mX11_told (d + 6) 0 0 K 79 [some (.ref 32), none, some (.int p2), some (.int p3), some (.int p4), some (.ref a2), none] [] (v5.1, v5.2.1, v5.2.2)
                  refine AW.iload dX11_told_79 rfl ?_
                  by_cases hc0 : p4 = (0 : Int32)
                  · have hf := (if_pos hc0).symm.trans hf
                    refine AW.swIn (tgt := 108) dX11_told_81 (by rw [hc0]; decide) (by rw [hc0]; decide) (by rw [hc0]; rfl) (by decide) ?_
                    refine AW.aload_n dX11_told_108 rfl ?_
                    refine TW.getR fX11_59_11 hs.k32 (rf_some hs.r32_8) dX11_told_109 ?_
                    refine TW.getR fX11_192_10 hs.k48 (rf_some hs.r48_1) dX11_told_112 ?_
                    refine AW.iload_n dX11_told_115 rfl ?_
                    obtain ⟨h6, hf⟩ := gd_split hf
                    have hl7 : (tn p2) < 13 := vp_lt h6
                    refine TW.aald (t := 3) hs.k49 (by decide) h6 (rf_some (hs.e49 hl7)) dX11_told_116 ?_
                    refine AW.iload_n dX11_told_117 rfl ?_
                    obtain ⟨h8, hf⟩ := gd_split hf
                    refine TW.iald (x := (v5.1 (50 + (tn p2)) (tn p3))) (hs.ek49 hl7) h8 rfl dX11_told_118 ?_
                    obtain rfl := Option.some.inj hf
                    exact AW.iret (st := []) dX11_told_119 rfl ((show Sh v5.2.2 → _ from hK) hs)
                  have hf := (if_neg hc0).symm.trans hf
                  by_cases hc1 : p4 = (1 : Int32)
                  · have hf := (if_pos hc1).symm.trans hf
                    refine AW.swIn (tgt := 120) dX11_told_81 (by rw [hc1]; decide) (by rw [hc1]; decide) (by rw [hc1]; rfl) (by decide) ?_
                    refine AW.aload_n dX11_told_120 rfl ?_
                    refine TW.getR fX11_59_11 hs.k32 (rf_some hs.r32_8) dX11_told_121 ?_
                    refine TW.getR fX11_195_10 hs.k48 (rf_some hs.r48_2) dX11_told_124 ?_
                    refine AW.iload_n dX11_told_127 rfl ?_
                    obtain ⟨h9, hf⟩ := gd_split hf
                    have hl10 : (tn p2) < 12 := vp_lt h9
                    refine TW.aald (t := 3) hs.k63 (by decide) h9 (rf_some (hs.e63 hl10)) dX11_told_128 ?_
                    refine AW.iload_n dX11_told_129 rfl ?_
                    obtain ⟨h11, hf⟩ := gd_split hf
                    refine TW.iald (x := (v5.1 (64 + (tn p2)) (tn p3))) (hs.ek63 hl10) h11 rfl dX11_told_130 ?_
                    obtain rfl := Option.some.inj hf
                    exact AW.iret (st := []) dX11_told_131 rfl ((show Sh v5.2.2 → _ from hK) hs)
                  have hf := (if_neg hc1).symm.trans hf
                  by_cases hc2 : p4 = (2 : Int32)
                  · have hf := (if_pos hc2).symm.trans hf
                    refine AW.swIn (tgt := 132) dX11_told_81 (by rw [hc2]; decide) (by rw [hc2]; decide) (by rw [hc2]; rfl) (by decide) ?_
                    refine AW.aload_n dX11_told_132 rfl ?_
                    refine TW.getR fX11_59_11 hs.k32 (rf_some hs.r32_8) dX11_told_133 ?_
                    refine TW.getR fX11_198_10 hs.k48 (rf_some hs.r48_3) dX11_told_136 ?_
                    refine AW.iload_n dX11_told_139 rfl ?_
                    obtain ⟨h12, hf⟩ := gd_split hf
                    refine TW.iald (x := (v5.1 76 (tn p2))) hs.k76 h12 rfl dX11_told_140 ?_
                    obtain rfl := Option.some.inj hf
                    exact AW.iret (st := []) dX11_told_141 rfl ((show Sh v5.2.2 → _ from hK) hs)
                  have hf := (if_neg hc2).symm.trans hf
                  have KD : AW G mX11_told (d + 6) 0 0 K 142 [some (.ref 32), none, some (.int p2), some (.int p3), some (.int p4), some (.ref a2), none] [] (v5.1, v5.2.1, v5.2.2) := by
                    refine AW.aload_n dX11_told_142 rfl ?_
                    refine TW.getR fX11_59_11 hs.k32 (rf_some hs.r32_8) dX11_told_143 ?_
                    refine TW.getR fX11_201_10 hs.k48 (rf_some hs.r48_4) dX11_told_146 ?_
                    refine AW.iload_n dX11_told_149 rfl ?_
                    obtain ⟨h13, hf⟩ := gd_split hf
                    refine TW.iald (x := (v5.1 77 (tn p2))) hs.k77 h13 rfl dX11_told_150 ?_
                    obtain rfl := Option.some.inj hf
                    exact AW.iret (st := []) dX11_told_151 rfl ((show Sh v5.2.2 → _ from hK) hs)
                  have hc0 : ¬ (p4).toInt = 0 := fun q => hc0 (Int32.toInt_inj.mp q)
                  have hc1 : ¬ (p4).toInt = 1 := fun q => hc1 (Int32.toInt_inj.mp q)
                  have hc2 : ¬ (p4).toInt = 2 := fun q => hc2 (Int32.toInt_inj.mp q)
                  exact AW.swOut dX11_told_81 (by omega) (by decide) KD
              clear hf; have hf := gj4; clear gj4
              refine AW.icmp_ne (tgt := 70) dX11_told_58 (by decide) (fun hc => ?_) (fun hc => ?_)
              · have hf := (if_neg hc).symm.trans hf
                obtain rfl := Option.some.inj hf
                exact AW.weak _ (by exact (And.intro rfl (And.intro rfl (And.intro rfl (And.intro rfl (And.intro rfl trivial)))))) Kj4
              · have hf := (if_pos hc).symm.trans hf
                refine AW.iload_n dX11_told_61 rfl ?_
                refine AW.iload dX11_told_62 rfl ?_
                refine AW.icmp_ne (tgt := 70) dX11_told_64 (by decide) (fun hc => ?_) (fun hc => ?_)
                · have hf := (if_neg hc).symm.trans hf
                  obtain rfl := Option.some.inj hf
                  exact AW.weak _ (by exact (And.intro rfl (And.intro rfl (And.intro rfl (And.intro rfl (And.intro rfl trivial)))))) Kj4
                · have hf := (if_pos hc).symm.trans hf
                  refine AW.bipush (v := (-7 : Int32)) dX11_told_67 (by decide) ?_
                  obtain rfl := Option.some.inj hf
                  exact AW.iret (st := []) dX11_told_69 rfl ((show Sh ρ → _ from Kj4) hs)
        · have hf := (if_pos hc).symm.trans hf
          refine AW.bipush (v := (-5 : Int32)) dX11_told_41 (by decide) ?_
          obtain rfl := Option.some.inj hf
          exact AW.iret (st := []) dX11_told_43 rfl ((show Sh ρ → _ from hK) hs)
def f_X11_ends (N : Nat) (ρ : Rh) (I : Nat → Nat → Int32) (J : Nat → Nat → Int64) (p1 : Int32) (p2 : Int32) : Option ((Nat → Nat → Int32) × (Nat → Nat → Int64) × (Rh) × Int32) := (Option.bind (f_X11_ruleAt N ρ I J p1) fun v1 => (ocase v1 (some (I, J, ρ, (-5 : Int32))) (fun a2 => (if (p2 < (0 : Int32)) then some (I, J, ρ, (-7 : Int32)) else (if (p2 ≤ (2 : Int32)) then (Option.bind (f_X10_sail N ρ I J a2) fun v3 => (if (p2 = (0 : Int32)) then some (v3.1, v3.2.1, v3.2.2, (v3.1 48 16)) else (if (p2 = (1 : Int32)) then (Option.bind (f_X10_living N v3.2.2 v3.1 v3.2.1 (v3.1 45 0)) fun v5 => some (v3.1, v3.2.1, v3.2.2, v5)) else (Option.bind (f_X10_firstDeath N v3.2.2 v3.1 v3.2.1) fun v4 => some (v3.1, v3.2.1, v3.2.2, v4))))) else some (I, J, ρ, (-7 : Int32)))))))
theorem c_X11_ends {G : Gd} {d N : Nat} {K : Ah → Option Value → Prop} {ρ : Rh} {I : Nat → Nat → Int32} {J : Nat → Nat → Int64} {p1 : Int32} {p2 : Int32} {o : (Nat → Nat → Int32) × (Nat → Nat → Int64) × (Rh) × Int32} (hs : Sh ρ) (hf : f_X11_ends N ρ I J p1 p2 = some o) (hK : (Sh o.2.2.1 → K (o.1, o.2.1, o.2.2.1) (some (.int o.2.2.2)))) : AM G (d + 6) 0 0 mX11_ends [.ref 32, .int p1, .int p2] (I, J, ρ) K := by
  unfold f_X11_ends at hf
  refine AM.intro okX11_ends.2.2.2.1 (Nat.le_of_ble_eq_true rfl) [some (.ref 32), some (.int p1), some (.int p2), none] rfl ?_
  refine AW.aload_n dX11_ends_0 rfl ?_
  refine AW.iload_n dX11_ends_1 rfl ?_
  obtain ⟨v1, gv1, hf⟩ := ob_split hf
  refine TW.invv (as := [.int p1]) (rest := []) viX11_133_11 hs.k32 dX11_ends_2 rfl rfl (Nat.le_of_ble_eq_true rfl) (c_X11_ruleAt hs gv1 ?_)
  show AW G mX11_ends (d + 6) 0 0 K 5 [some (.ref 32), some (.int p1), some (.int p2), none] [va_rf v1] (I, J, ρ)
  refine AW.astore_nq (ls' := [some (.ref 32), some (.int p1), some (.int p2), some (va_rf v1)]) dX11_ends_5 (Nat.le_of_ble_eq_true rfl) rfl ?_
  refine AW.aload_nq dX11_ends_6 rfl ?_
  refine AW.ifnonnull (tgt := 13) dX11_ends_7 (by decide) (fun a2 hc => ?_) (fun hc => ?_)
  · have hf := ocase_s hc hf
    try rw [hc]
    show AW G mX11_ends (d + 6) 0 0 K 13 [some (.ref 32), some (.int p1), some (.int p2), some (.ref a2)] [] (I, J, ρ)
    refine AW.iload_n dX11_ends_13 rfl ?_
    refine AW.if_lt (tgt := 22) dX11_ends_14 (by decide) (fun hc => ?_) (fun hc => ?_)
    · have hf := (if_pos hc).symm.trans hf
      refine AW.bipush (v := (-7 : Int32)) dX11_ends_22 (by decide) ?_
      obtain rfl := Option.some.inj hf
      exact AW.iret (st := []) dX11_ends_24 rfl ((show Sh ρ → _ from hK) hs)
    · have hf := (if_neg hc).symm.trans hf
      refine AW.iload_n dX11_ends_17 rfl ?_
      refine AW.iconst (v := (2 : Int32)) dX11_ends_18 (by decide) ?_
      refine AW.icmp_le (tgt := 25) dX11_ends_19 (by decide) (fun hc => ?_) (fun hc => ?_)
      · have hf := (if_pos hc).symm.trans hf
        refine AW.aload_n dX11_ends_25 rfl ?_
        refine TW.getR fX11_59_11 hs.k32 (rf_some hs.r32_8) dX11_ends_26 ?_
        refine AW.aload_n dX11_ends_29 rfl ?_
        obtain ⟨v3, gv3, hf⟩ := ob_split hf
        refine TW.invv (as := [.ref a2]) (rest := []) viX11_177_10 hs.k48 dX11_ends_30 rfl rfl (Nat.le_of_ble_eq_true rfl) (c_X10_sail hs gv3 (fun hs => ?_))
        show AW G mX11_ends (d + 6) 0 0 K 33 [some (.ref 32), some (.int p1), some (.int p2), some (.ref a2)] [] (v3.1, v3.2.1, v3.2.2)
        refine AW.iload_n dX11_ends_33 rfl ?_
        refine AW.if_ne (tgt := 45) dX11_ends_34 (by decide) (fun hc => ?_) (fun hc => ?_)
        · have hf := (if_neg hc).symm.trans hf
          refine AW.iload_n dX11_ends_45 rfl ?_
          refine AW.iconst (v := (1 : Int32)) dX11_ends_46 (by decide) ?_
          refine AW.icmp_ne (tgt := 69) dX11_ends_47 (by decide) (fun hc => ?_) (fun hc => ?_)
          · have hf := (if_neg hc).symm.trans hf
            refine AW.aload_n dX11_ends_69 rfl ?_
            refine TW.getR fX11_59_11 hs.k32 (rf_some hs.r32_8) dX11_ends_70 ?_
            obtain ⟨v4, gv4, hf⟩ := ob_split hf
            refine TW.invv (as := []) (rest := []) viX11_210_10 hs.k48 dX11_ends_73 rfl rfl (Nat.le_of_ble_eq_true rfl) (c_X10_firstDeath hs gv4 ?_)
            show AW G mX11_ends (d + 6) 0 0 K 76 [some (.ref 32), some (.int p1), some (.int p2), some (.ref a2)] [.int v4] (v3.1, v3.2.1, v3.2.2)
            obtain rfl := Option.some.inj hf
            exact AW.iret (st := []) dX11_ends_76 rfl ((show Sh v3.2.2 → _ from hK) hs)
          · have hf := (if_pos hc).symm.trans hf
            refine AW.aload_n dX11_ends_50 rfl ?_
            refine TW.getR fX11_59_11 hs.k32 (rf_some hs.r32_8) dX11_ends_51 ?_
            refine AW.aload_n dX11_ends_54 rfl ?_
            refine TW.getR fX11_50_11 hs.k32 (rf_some hs.r32_0) dX11_ends_55 ?_
            refine TW.getR fX11_94_0 hs.k42 (rf_some hs.r42_3) dX11_ends_58 ?_
            refine AW.iconst (v := (0 : Int32)) dX11_ends_61 (by decide) ?_
            refine TW.iald (x := (v3.1 45 0)) hs.k45 (show ¬ ((0 : Int32) < 0 ∨ 4 ≤ (0 : Int32).toNatClampNeg) by decide) rfl dX11_ends_62 ?_
            obtain ⟨v5, gv5, hf⟩ := ob_split hf
            refine TW.invv (as := [.int (v3.1 45 0)]) (rest := []) viX11_207_10 hs.k48 dX11_ends_63 rfl rfl (Nat.le_of_ble_eq_true rfl) (c_X10_living hs gv5 ?_)
            show AW G mX11_ends (d + 6) 0 0 K 66 [some (.ref 32), some (.int p1), some (.int p2), some (.ref a2)] [.int v5] (v3.1, v3.2.1, v3.2.2)
            refine AW.goto (tgt := 76) dX11_ends_66 (by decide) ?_
            obtain rfl := Option.some.inj hf
            exact AW.iret (st := []) dX11_ends_76 rfl ((show Sh v3.2.2 → _ from hK) hs)
        · have hf := (if_pos hc).symm.trans hf
          refine AW.aload_n dX11_ends_37 rfl ?_
          refine TW.getR fX11_59_11 hs.k32 (rf_some hs.r32_8) dX11_ends_38 ?_
          refine TW.getI (x := (v3.1 48 16)) fX11_204_10 hs.k48 rfl dX11_ends_41 ?_
          obtain rfl := Option.some.inj hf
          exact AW.iret (st := []) dX11_ends_44 rfl ((show Sh v3.2.2 → _ from hK) hs)
      · have hf := (if_neg hc).symm.trans hf
        refine AW.bipush (v := (-7 : Int32)) dX11_ends_22 (by decide) ?_
        obtain rfl := Option.some.inj hf
        exact AW.iret (st := []) dX11_ends_24 rfl ((show Sh ρ → _ from hK) hs)
  · have hf := ocase_n hc hf
    try rw [hc]
    show AW G mX11_ends (d + 6) 0 0 K 10 [some (.ref 32), some (.int p1), some (.int p2), some (.null)] [] (I, J, ρ)
    refine AW.bipush (v := (-5 : Int32)) dX11_ends_10 (by decide) ?_
    obtain rfl := Option.some.inj hf
    exact AW.iret (st := []) dX11_ends_12 rfl ((show Sh ρ → _ from hK) hs)
def f_X11_best_21 (N : Nat) (p1 : Int32) : Nat → (Nat → Nat → Int32) → (Nat → Nat → Int64) → Rh → Int32 → Int64 → Int32 → Option ((Nat → Nat → Int32) × (Nat → Nat → Int64) × (Rh) × Int32)
  | 0, _, _, _, _, _, _ => none
  | n + 1, I1, J2, R3, i4, q5, i6 => (if ((I1 32 3) ≤ i6) then some (I1, J2, R3, i4) else (Option.bind (f_X11_ruleAt N R3 I1 J2 i6) fun v7 => (((ocase v7 (some (i4, q5, I1, J2, R3)) (fun a8 => (Option.bind (f_X10_sail N R3 I1 J2 a8) fun v9 => (Option.bind (f_X10_worth N v9.2.2 v9.1 v9.2.1 p1) fun v10 => (if (v10 ≤ q5) then some (i4, q5, v9.1, v9.2.1, v9.2.2) else some (i6, v10, v9.1, v9.2.1, v9.2.2)))))) : Option (Int32 × Int64 × (Nat → Nat → Int32) × (Nat → Nat → Int64) × Rh)).bind fun j11 => f_X11_best_21 N p1 n j11.2.2.1 j11.2.2.2.1 j11.2.2.2.2 j11.1 j11.2.1 (i6 + (1 : Int32)))))
theorem l_X11_best_21 {G : Gd} {d N : Nat} {K : Ah → Option Value → Prop} {p1 : Int32}  {o : (Nat → Nat → Int32) × (Nat → Nat → Int64) × (Rh) × Int32} : ∀ (n : Nat) (I1 : Nat → Nat → Int32) (J2 : Nat → Nat → Int64) (R3 : Rh) (i4 : Int32) (q5 : Int64) (i6 : Int32), Sh R3 → f_X11_best_21 N p1 n I1 J2 R3 i4 q5 i6 = some o → (Sh o.2.2.1 → AW G mX11_best (d + 6) 0 0 K 81 [none, none, some (.int o.2.2.2), none, none, none, none, none, none] [] (o.1, o.2.1, o.2.2.1)) → AW G mX11_best (d + 6) 0 0 K 21 [some (.ref 32), some (.int p1), some (.int i4), some (.long q5), none, some (.int i6), none, none, none] [] (I1, J2, R3) := by
  intro n
  induction n with
  | zero => intro I1 J2 R3 i4 q5 i6 hs hf hE; rw [f_X11_best_21.eq_1] at hf; cases hf
  | succ n ih =>
    intro I1 J2 R3 i4 q5 i6 hs hf hE
    rw [f_X11_best_21.eq_2] at hf
    refine AW.iload dX11_best_21 rfl ?_
    refine AW.aload_n dX11_best_23 rfl ?_
    refine TW.getI (x := (I1 32 3)) fX11_103_11 hs.k32 rfl dX11_best_24 ?_
    refine AW.icmp_ge (tgt := 81) dX11_best_27 (by decide) (fun hc => ?_) (fun hc => ?_)
    · have hf := (if_pos hc).symm.trans hf
      obtain rfl := Option.some.inj hf
      exact AW.weak _ (by exact (And.intro rfl trivial)) ((show Sh R3 → _ from hE) hs)
    · have hf := (if_neg hc).symm.trans hf
      refine AW.aload_n dX11_best_30 rfl ?_
      refine AW.iload dX11_best_31 rfl ?_
      obtain ⟨v7, gv7, hf⟩ := ob_split hf
      refine TW.invv (as := [.int i6]) (rest := []) viX11_133_11 hs.k32 dX11_best_33 rfl rfl (Nat.le_of_ble_eq_true rfl) (c_X11_ruleAt hs gv7 ?_)
      show AW G mX11_best (d + 6) 0 0 K 36 [some (.ref 32), some (.int p1), some (.int i4), some (.long q5), none, some (.int i6), none, none, none] [va_rf v7] (I1, J2, R3)
      refine AW.astoreq (ls' := [some (.ref 32), some (.int p1), some (.int i4), some (.long q5), none, some (.int i6), some (va_rf v7), none, none]) dX11_best_36 (Nat.le_of_ble_eq_true rfl) rfl ?_
      refine AW.aloadq dX11_best_38 rfl ?_
      obtain ⟨j11, gj11, hf⟩ := ob_split hf
      have Kj11 : (Sh j11.2.2.2.2 → AW G mX11_best (d + 6) 0 0 K 75 [some (.ref 32), some (.int p1), some (.int j11.1), some (.long j11.2.1), none, some (.int i6), none, none, none] [] (j11.2.2.1, j11.2.2.2.1, j11.2.2.2.2)) := by
        intro hs
        refine AW.iinc (v := (i6 + (1 : Int32))) (ls' := [some (.ref 32), some (.int p1), some (.int j11.1), some (.long j11.2.1), none, some (.int (i6 + (1 : Int32))), none, none, none]) dX11_best_75 rfl rfl (Nat.le_of_ble_eq_true rfl) rfl ?_
        refine AW.goto (tgt := 21) dX11_best_78 (by decide) ?_
        exact AW.weak _ (by exact (And.intro rfl (And.intro rfl (And.intro rfl (And.intro rfl (And.intro rfl trivial)))))) (ih j11.2.2.1 j11.2.2.2.1 j11.2.2.2.2 j11.1 j11.2.1 (i6 + (1 : Int32)) hs hf hE)
      clear hf; have hf := gj11; clear gj11
      refine AW.ifnull (tgt := 75) dX11_best_40 (by decide) (fun hc => ?_) (fun a8 hc => ?_)
      · have hf := ocase_n hc hf
        try rw [hc]
        show AW G mX11_best (d + 6) 0 0 K 75 [some (.ref 32), some (.int p1), some (.int i4), some (.long q5), none, some (.int i6), some (.null), none, none] [] (I1, J2, R3)
        obtain rfl := Option.some.inj hf
        exact AW.weak _ (by exact (And.intro rfl (And.intro rfl (And.intro rfl (And.intro rfl (And.intro rfl trivial)))))) ((show Sh R3 → _ from Kj11) hs)
      · have hf := ocase_s hc hf
        try rw [hc]
        show AW G mX11_best (d + 6) 0 0 K 43 [some (.ref 32), some (.int p1), some (.int i4), some (.long q5), none, some (.int i6), some (.ref a8), none, none] [] (I1, J2, R3)
        refine AW.aload_n dX11_best_43 rfl ?_
        refine TW.getR fX11_59_11 hs.k32 (rf_some hs.r32_8) dX11_best_44 ?_
        refine AW.aload dX11_best_47 rfl ?_
        obtain ⟨v9, gv9, hf⟩ := ob_split hf
        refine TW.invv (as := [.ref a8]) (rest := []) viX11_177_10 hs.k48 dX11_best_49 rfl rfl (Nat.le_of_ble_eq_true rfl) (c_X10_sail hs gv9 (fun hs => ?_))
        show AW G mX11_best (d + 6) 0 0 K 52 [some (.ref 32), some (.int p1), some (.int i4), some (.long q5), none, some (.int i6), some (.ref a8), none, none] [] (v9.1, v9.2.1, v9.2.2)
        refine AW.aload_n dX11_best_52 rfl ?_
        refine TW.getR fX11_59_11 hs.k32 (rf_some hs.r32_8) dX11_best_53 ?_
        refine AW.iload_n dX11_best_56 rfl ?_
        obtain ⟨v10, gv10, hf⟩ := ob_split hf
        refine TW.invv (as := [.int p1]) (rest := []) viX11_188_10 hs.k48 dX11_best_57 rfl rfl (Nat.le_of_ble_eq_true rfl) (c_X10_worth hs gv10 ?_)
        show AW G mX11_best (d + 6) 0 0 K 60 [some (.ref 32), some (.int p1), some (.int i4), some (.long q5), none, some (.int i6), some (.ref a8), none, none] [.long v10] (v9.1, v9.2.1, v9.2.2)
        refine AW.lstore (ls' := [some (.ref 32), some (.int p1), some (.int i4), some (.long q5), none, some (.int i6), some (.ref a8), some (.long v10), none]) dX11_best_60 (Nat.le_of_ble_eq_true rfl) rfl ?_
        refine AW.lload dX11_best_62 rfl ?_
        refine AW.lload_n dX11_best_64 rfl ?_
        refine AW.lcmp dX11_best_65 ?_
        refine AW.if_le (tgt := 75) dX11_best_66 (by decide) (fun hc => ?_) (fun hc => ?_)
        · have hc : (v10 ≤ q5) := (lc_le _ _).mp hc; have hf := (if_pos hc).symm.trans hf
          obtain rfl := Option.some.inj hf
          exact AW.weak _ (by exact (And.intro rfl (And.intro rfl (And.intro rfl (And.intro rfl (And.intro rfl trivial)))))) ((show Sh v9.2.2 → _ from Kj11) hs)
        · have hc : ¬ (v10 ≤ q5) := fun z => hc ((lc_le _ _).mpr z); have hf := (if_neg hc).symm.trans hf
          refine AW.lload dX11_best_69 rfl ?_
          refine AW.lstore_n (ls' := [some (.ref 32), some (.int p1), some (.int i4), some (.long v10), none, some (.int i6), some (.ref a8), some (.long v10), none]) dX11_best_71 (Nat.le_of_ble_eq_true rfl) rfl ?_
          refine AW.iload dX11_best_72 rfl ?_
          refine AW.istore_n (ls' := [some (.ref 32), some (.int p1), some (.int i6), some (.long v10), none, some (.int i6), some (.ref a8), some (.long v10), none]) dX11_best_74 (Nat.le_of_ble_eq_true rfl) rfl ?_
          obtain rfl := Option.some.inj hf
          exact AW.weak _ (by exact (And.intro rfl (And.intro rfl (And.intro rfl (And.intro rfl (And.intro rfl trivial)))))) ((show Sh v9.2.2 → _ from Kj11) hs)
def f_X11_best (N : Nat) (ρ : Rh) (I : Nat → Nat → Int32) (J : Nat → Nat → Int64) (p1 : Int32) : Option ((Nat → Nat → Int32) × (Nat → Nat → Int64) × (Rh) × Int32) := (if (p1 < (0 : Int32)) then some (I, J, ρ, (-2 : Int32)) else (if (p1 ≤ (1 : Int32)) then ((f_X11_best_21 N p1 N I J ρ (-1 : Int32) (-1 : Int64) (0 : Int32)).bind fun j12 => some (j12.1, j12.2.1, j12.2.2.1, j12.2.2.2)) else some (I, J, ρ, (-2 : Int32))))
theorem c_X11_best {G : Gd} {d N : Nat} {K : Ah → Option Value → Prop} {ρ : Rh} {I : Nat → Nat → Int32} {J : Nat → Nat → Int64} {p1 : Int32} {o : (Nat → Nat → Int32) × (Nat → Nat → Int64) × (Rh) × Int32} (hs : Sh ρ) (hf : f_X11_best N ρ I J p1 = some o) (hK : (Sh o.2.2.1 → K (o.1, o.2.1, o.2.2.1) (some (.int o.2.2.2)))) : AM G (d + 6) 0 0 mX11_best [.ref 32, .int p1] (I, J, ρ) K := by
  unfold f_X11_best at hf
  refine AM.intro okX11_best.2.2.2.1 (Nat.le_of_ble_eq_true rfl) [some (.ref 32), some (.int p1), none, none, none, none, none, none, none] rfl ?_
  refine AW.iload_n dX11_best_0 rfl ?_
  refine AW.if_lt (tgt := 9) dX11_best_1 (by decide) (fun hc => ?_) (fun hc => ?_)
  · have hf := (if_pos hc).symm.trans hf
    refine AW.bipush (v := (-2 : Int32)) dX11_best_9 (by decide) ?_
    obtain rfl := Option.some.inj hf
    exact AW.iret (st := []) dX11_best_11 rfl ((show Sh ρ → _ from hK) hs)
  · have hf := (if_neg hc).symm.trans hf
    refine AW.iload_n dX11_best_4 rfl ?_
    refine AW.iconst (v := (1 : Int32)) dX11_best_5 (by decide) ?_
    refine AW.icmp_le (tgt := 12) dX11_best_6 (by decide) (fun hc => ?_) (fun hc => ?_)
    · have hf := (if_pos hc).symm.trans hf
      refine AW.iconst (v := (-1 : Int32)) dX11_best_12 (by decide) ?_
      refine AW.istore_n (ls' := [some (.ref 32), some (.int p1), some (.int (-1 : Int32)), none, none, none, none, none, none]) dX11_best_13 (Nat.le_of_ble_eq_true rfl) rfl ?_
      refine AW.ldc2 dX11_best_14 kcX11_214 ?_
      refine AW.lstore_n (ls' := [some (.ref 32), some (.int p1), some (.int (-1 : Int32)), some (.long (-1 : Int64)), none, none, none, none, none]) dX11_best_17 (Nat.le_of_ble_eq_true rfl) rfl ?_
      refine AW.iconst (v := (0 : Int32)) dX11_best_18 (by decide) ?_
      refine AW.istore (ls' := [some (.ref 32), some (.int p1), some (.int (-1 : Int32)), some (.long (-1 : Int64)), none, some (.int (0 : Int32)), none, none, none]) dX11_best_19 (Nat.le_of_ble_eq_true rfl) rfl ?_
      obtain ⟨j12, gj12, hf⟩ := ob_split hf
      refine AW.weak _ (by exact (And.intro rfl (And.intro rfl (And.intro rfl (And.intro rfl (And.intro rfl trivial)))))) (l_X11_best_21 N I J ρ (-1 : Int32) (-1 : Int64) (0 : Int32) hs gj12 (fun hs => ?_))
      show AW G mX11_best (d + 6) 0 0 K 81 [none, none, some (.int j12.2.2.2), none, none, none, none, none, none] [] (j12.1, j12.2.1, j12.2.2.1)
      refine AW.iload_n dX11_best_81 rfl ?_
      obtain rfl := Option.some.inj hf
      exact AW.iret (st := []) dX11_best_82 rfl ((show Sh j12.2.2.1 → _ from hK) hs)
    · have hf := (if_neg hc).symm.trans hf
      refine AW.bipush (v := (-2 : Int32)) dX11_best_9 (by decide) ?_
      obtain rfl := Option.some.inj hf
      exact AW.iret (st := []) dX11_best_11 rfl ((show Sh ρ → _ from hK) hs)
def f_X11_rations_23 (N : Nat) (a6 : Nat) : Nat → (Nat → Nat → Int32) → (Nat → Nat → Int64) → Rh → Int32 → Int64 → Int32 → Option ((Nat → Nat → Int32) × (Nat → Nat → Int64) × (Rh) × Int32)
  | 0, _, _, _, _, _, _ => none
  | n + 1, I3, J4, R5, i7, q8, i9 => (if ((99 : Int32) < i9) then some (I3, J4, R5, i7) else (Option.bind (f_X10_sailAs N R5 I3 J4 a6 i9 (255 : Int32) (-1 : Int32) (0 : Int32)) fun v10 => (Option.bind (f_X10_worth N v10.2.2 v10.1 v10.2.1 (0 : Int32)) fun v11 => (((if (v11 ≤ q8) then some (i7, q8) else some (i9, v11)) : Option (Int32 × Int64)).bind fun j12 => f_X11_rations_23 N a6 n v10.1 v10.2.1 v10.2.2 j12.1 j12.2 (i9 + (1 : Int32))))))
theorem l_X11_rations_23 {G : Gd} {d N : Nat} {K : Ah → Option Value → Prop} {a6 : Nat}  {o : (Nat → Nat → Int32) × (Nat → Nat → Int64) × (Rh) × Int32} : ∀ (n : Nat) (I3 : Nat → Nat → Int32) (J4 : Nat → Nat → Int64) (R5 : Rh) (i7 : Int32) (q8 : Int64) (i9 : Int32), Sh R5 → f_X11_rations_23 N a6 n I3 J4 R5 i7 q8 i9 = some o → (Sh o.2.2.1 → AW G mX11_rations (d + 5) 0 0 K 76 [none, none, none, some (.int o.2.2.2), none, none, none, none, none] [] (o.1, o.2.1, o.2.2.1)) → AW G mX11_rations (d + 5) 0 0 K 23 [some (.ref 32), none, some (.ref a6), some (.int i7), some (.long q8), none, some (.int i9), none, none] [] (I3, J4, R5) := by
  intro n
  induction n with
  | zero => intro I3 J4 R5 i7 q8 i9 hs hf hE; rw [f_X11_rations_23.eq_1] at hf; cases hf
  | succ n ih =>
    intro I3 J4 R5 i7 q8 i9 hs hf hE
    rw [f_X11_rations_23.eq_2] at hf
    refine AW.iload dX11_rations_23 rfl ?_
    refine AW.bipush (v := (99 : Int32)) dX11_rations_25 (by decide) ?_
    refine AW.icmp_gt (tgt := 76) dX11_rations_27 (by decide) (fun hc => ?_) (fun hc => ?_)
    · have hf := (if_pos hc).symm.trans hf
      obtain rfl := Option.some.inj hf
      exact AW.weak _ (by exact (And.intro rfl trivial)) ((show Sh R5 → _ from hE) hs)
    · have hf := (if_neg hc).symm.trans hf
      refine AW.aload_n dX11_rations_30 rfl ?_
      refine TW.getR fX11_59_11 hs.k32 (rf_some hs.r32_8) dX11_rations_31 ?_
      refine AW.aload_n dX11_rations_34 rfl ?_
      refine AW.iload dX11_rations_35 rfl ?_
      refine AW.sipush (v := (255 : Int32)) dX11_rations_37 (by decide) ?_
      refine AW.iconst (v := (-1 : Int32)) dX11_rations_40 (by decide) ?_
      refine AW.iconst (v := (0 : Int32)) dX11_rations_41 (by decide) ?_
      obtain ⟨v10, gv10, hf⟩ := ob_split hf
      refine TW.invv (as := [.ref a6, .int i9, .int (255 : Int32), .int (-1 : Int32), .int (0 : Int32)]) (rest := []) viX11_216_10 hs.k48 dX11_rations_42 rfl rfl (Nat.le_of_ble_eq_true rfl) (c_X10_sailAs hs gv10 (fun hs => ?_))
      show AW G mX11_rations (d + 5) 0 0 K 45 [some (.ref 32), none, some (.ref a6), some (.int i7), some (.long q8), none, some (.int i9), none, none] [] (v10.1, v10.2.1, v10.2.2)
      refine AW.aload_n dX11_rations_45 rfl ?_
      refine TW.getR fX11_59_11 hs.k32 (rf_some hs.r32_8) dX11_rations_46 ?_
      refine AW.iconst (v := (0 : Int32)) dX11_rations_49 (by decide) ?_
      obtain ⟨v11, gv11, hf⟩ := ob_split hf
      refine TW.invv (as := [.int (0 : Int32)]) (rest := []) viX11_188_10 hs.k48 dX11_rations_50 rfl rfl (Nat.le_of_ble_eq_true rfl) (c_X10_worth hs gv11 ?_)
      show AW G mX11_rations (d + 5) 0 0 K 53 [some (.ref 32), none, some (.ref a6), some (.int i7), some (.long q8), none, some (.int i9), none, none] [.long v11] (v10.1, v10.2.1, v10.2.2)
      refine AW.lstore (ls' := [some (.ref 32), none, some (.ref a6), some (.int i7), some (.long q8), none, some (.int i9), some (.long v11), none]) dX11_rations_53 (Nat.le_of_ble_eq_true rfl) rfl ?_
      refine AW.lload dX11_rations_55 rfl ?_
      refine AW.lload dX11_rations_57 rfl ?_
      refine AW.lcmp dX11_rations_59 ?_
      obtain ⟨j12, gj12, hf⟩ := ob_split hf
      have Kj12 : AW G mX11_rations (d + 5) 0 0 K 70 [some (.ref 32), none, some (.ref a6), some (.int j12.1), some (.long j12.2), none, some (.int i9), none, none] [] (v10.1, v10.2.1, v10.2.2) := by
        refine AW.iinc (v := (i9 + (1 : Int32))) (ls' := [some (.ref 32), none, some (.ref a6), some (.int j12.1), some (.long j12.2), none, some (.int (i9 + (1 : Int32))), none, none]) dX11_rations_70 rfl rfl (Nat.le_of_ble_eq_true rfl) rfl ?_
        refine AW.goto (tgt := 23) dX11_rations_73 (by decide) ?_
        exact AW.weak _ (by exact (And.intro rfl (And.intro rfl (And.intro rfl (And.intro rfl (And.intro rfl trivial)))))) (ih v10.1 v10.2.1 v10.2.2 j12.1 j12.2 (i9 + (1 : Int32)) hs hf hE)
      clear hf; have hf := gj12; clear gj12
      refine AW.if_le (tgt := 70) dX11_rations_60 (by decide) (fun hc => ?_) (fun hc => ?_)
      · have hc : (v11 ≤ q8) := (lc_le _ _).mp hc; have hf := (if_pos hc).symm.trans hf
        obtain rfl := Option.some.inj hf
        exact AW.weak _ (by exact (And.intro rfl (And.intro rfl (And.intro rfl (And.intro rfl (And.intro rfl trivial)))))) Kj12
      · have hc : ¬ (v11 ≤ q8) := fun z => hc ((lc_le _ _).mpr z); have hf := (if_neg hc).symm.trans hf
        refine AW.lload dX11_rations_63 rfl ?_
        refine AW.lstore (ls' := [some (.ref 32), none, some (.ref a6), some (.int i7), some (.long v11), none, some (.int i9), some (.long v11), none]) dX11_rations_65 (Nat.le_of_ble_eq_true rfl) rfl ?_
        refine AW.iload dX11_rations_67 rfl ?_
        refine AW.istore_n (ls' := [some (.ref 32), none, some (.ref a6), some (.int i9), some (.long v11), none, some (.int i9), some (.long v11), none]) dX11_rations_69 (Nat.le_of_ble_eq_true rfl) rfl ?_
        obtain rfl := Option.some.inj hf
        exact AW.weak _ (by exact (And.intro rfl (And.intro rfl (And.intro rfl (And.intro rfl (And.intro rfl trivial)))))) Kj12
def f_X11_rations (N : Nat) (ρ : Rh) (I : Nat → Nat → Int32) (J : Nat → Nat → Int64) (p1 : Int32) : Option ((Nat → Nat → Int32) × (Nat → Nat → Int64) × (Rh) × Int32) := (Option.bind (f_X11_ruleAt N ρ I J p1) fun v1 => (ocase v1 (some (I, J, ρ, (-5 : Int32))) (fun a2 => ((f_X11_rations_23 N a2 N I J ρ (0 : Int32) (-1 : Int64) (0 : Int32)).bind fun j13 => some (j13.1, j13.2.1, j13.2.2.1, j13.2.2.2)))))
theorem c_X11_rations {G : Gd} {d N : Nat} {K : Ah → Option Value → Prop} {ρ : Rh} {I : Nat → Nat → Int32} {J : Nat → Nat → Int64} {p1 : Int32} {o : (Nat → Nat → Int32) × (Nat → Nat → Int64) × (Rh) × Int32} (hs : Sh ρ) (hf : f_X11_rations N ρ I J p1 = some o) (hK : (Sh o.2.2.1 → K (o.1, o.2.1, o.2.2.1) (some (.int o.2.2.2)))) : AM G (d + 5) 0 0 mX11_rations [.ref 32, .int p1] (I, J, ρ) K := by
  unfold f_X11_rations at hf
  refine AM.intro okX11_rations.2.2.2.1 (Nat.le_of_ble_eq_true rfl) [some (.ref 32), some (.int p1), none, none, none, none, none, none, none] rfl ?_
  refine AW.aload_n dX11_rations_0 rfl ?_
  refine AW.iload_n dX11_rations_1 rfl ?_
  obtain ⟨v1, gv1, hf⟩ := ob_split hf
  refine TW.invv (as := [.int p1]) (rest := []) viX11_133_11 hs.k32 dX11_rations_2 rfl rfl (Nat.le_of_ble_eq_true rfl) (c_X11_ruleAt hs gv1 ?_)
  show AW G mX11_rations (d + 5) 0 0 K 5 [some (.ref 32), some (.int p1), none, none, none, none, none, none, none] [va_rf v1] (I, J, ρ)
  refine AW.astore_nq (ls' := [some (.ref 32), some (.int p1), some (va_rf v1), none, none, none, none, none, none]) dX11_rations_5 (Nat.le_of_ble_eq_true rfl) rfl ?_
  refine AW.aload_nq dX11_rations_6 rfl ?_
  refine AW.ifnonnull (tgt := 13) dX11_rations_7 (by decide) (fun a2 hc => ?_) (fun hc => ?_)
  · have hf := ocase_s hc hf
    try rw [hc]
    show AW G mX11_rations (d + 5) 0 0 K 13 [some (.ref 32), some (.int p1), some (.ref a2), none, none, none, none, none, none] [] (I, J, ρ)
    refine AW.iconst (v := (0 : Int32)) dX11_rations_13 (by decide) ?_
    refine AW.istore_n (ls' := [some (.ref 32), some (.int p1), some (.ref a2), some (.int (0 : Int32)), none, none, none, none, none]) dX11_rations_14 (Nat.le_of_ble_eq_true rfl) rfl ?_
    refine AW.ldc2 dX11_rations_15 kcX11_214 ?_
    refine AW.lstore (ls' := [some (.ref 32), some (.int p1), some (.ref a2), some (.int (0 : Int32)), some (.long (-1 : Int64)), none, none, none, none]) dX11_rations_18 (Nat.le_of_ble_eq_true rfl) rfl ?_
    refine AW.iconst (v := (0 : Int32)) dX11_rations_20 (by decide) ?_
    refine AW.istore (ls' := [some (.ref 32), some (.int p1), some (.ref a2), some (.int (0 : Int32)), some (.long (-1 : Int64)), none, some (.int (0 : Int32)), none, none]) dX11_rations_21 (Nat.le_of_ble_eq_true rfl) rfl ?_
    obtain ⟨j13, gj13, hf⟩ := ob_split hf
    refine AW.weak _ (by exact (And.intro rfl (And.intro rfl (And.intro rfl (And.intro rfl (And.intro rfl trivial)))))) (l_X11_rations_23 N I J ρ (0 : Int32) (-1 : Int64) (0 : Int32) hs gj13 (fun hs => ?_))
    show AW G mX11_rations (d + 5) 0 0 K 76 [none, none, none, some (.int j13.2.2.2), none, none, none, none, none] [] (j13.1, j13.2.1, j13.2.2.1)
    refine AW.iload_n dX11_rations_76 rfl ?_
    obtain rfl := Option.some.inj hf
    exact AW.iret (st := []) dX11_rations_77 rfl ((show Sh j13.2.2.1 → _ from hK) hs)
  · have hf := ocase_n hc hf
    try rw [hc]
    show AW G mX11_rations (d + 5) 0 0 K 10 [some (.ref 32), some (.int p1), some (.null), none, none, none, none, none, none] [] (I, J, ρ)
    refine AW.bipush (v := (-5 : Int32)) dX11_rations_10 (by decide) ?_
    obtain rfl := Option.some.inj hf
    exact AW.iret (st := []) dX11_rations_12 rfl ((show Sh ρ → _ from hK) hs)
def f_X11_keepHomes (N : Nat) (ρ : Rh) (I : Nat → Nat → Int32) (J : Nat → Nat → Int64) (p1 : Nat) : Option ((Nat → Nat → Int32) × (Nat → Nat → Int64) × (Rh)) := (Option.bind (f_X10_sail N ρ I J p1) fun v1 => some (v1.1, (up v1.2.1 39 (cpy (v1.2.1 78) (v1.2.1 39) (tn (0 : Int32)) (tn (0 : Int32)) (tn (8 : Int32)))), v1.2.2))
theorem c_X11_keepHomes {G : Gd} {d N : Nat} {K : Ah → Option Value → Prop} {ρ : Rh} {I : Nat → Nat → Int32} {J : Nat → Nat → Int64} {p1 : Nat} {o : (Nat → Nat → Int32) × (Nat → Nat → Int64) × (Rh)} (hs : Sh ρ) (hf : f_X11_keepHomes N ρ I J p1 = some o) (hK : (Sh o.2.2 → K (o.1, o.2.1, o.2.2) none)) : AM G (d + 6) 0 0 mX11_keepHomes [.ref 32, .ref p1] (I, J, ρ) K := by
  unfold f_X11_keepHomes at hf
  refine AM.intro okX11_keepHomes.2.2.2.1 (Nat.le_of_ble_eq_true rfl) [some (.ref 32), some (.ref p1)] rfl ?_
  refine AW.aload_n dX11_keepHomes_0 rfl ?_
  refine TW.getR fX11_59_11 hs.k32 (rf_some hs.r32_8) dX11_keepHomes_1 ?_
  refine AW.aload_n dX11_keepHomes_4 rfl ?_
  obtain ⟨v1, gv1, hf⟩ := ob_split hf
  refine TW.invv (as := [.ref p1]) (rest := []) viX11_177_10 hs.k48 dX11_keepHomes_5 rfl rfl (Nat.le_of_ble_eq_true rfl) (c_X10_sail hs gv1 (fun hs => ?_))
  show AW G mX11_keepHomes (d + 6) 0 0 K 8 [some (.ref 32), some (.ref p1)] [] (v1.1, v1.2.1, v1.2.2)
  refine AW.aload_n dX11_keepHomes_8 rfl ?_
  refine TW.getR fX11_59_11 hs.k32 (rf_some hs.r32_8) dX11_keepHomes_9 ?_
  refine TW.getR fX11_181_10 hs.k48 (rf_some hs.r48_5) dX11_keepHomes_12 ?_
  refine AW.iconst (v := (0 : Int32)) dX11_keepHomes_15 (by decide) ?_
  refine AW.aload_n dX11_keepHomes_16 rfl ?_
  refine TW.getR fX11_34_11 hs.k32 (rf_some hs.r32_9) dX11_keepHomes_17 ?_
  refine AW.iconst (v := (0 : Int32)) dX11_keepHomes_20 (by decide) ?_
  refine AW.bipush (v := (8 : Int32)) dX11_keepHomes_21 (by decide) ?_
  refine TW.copyL cpX11_257 hs.k78 hs.k39 (by decide) (by decide) (by decide) (by decide) (by decide) (Nat.le_of_ble_eq_true rfl) dX11_keepHomes_23 ?_
  show AW G mX11_keepHomes (d + 6) 0 0 K 26 [some (.ref 32), some (.ref p1)] [] (v1.1, (up v1.2.1 39 (cpy (v1.2.1 78) (v1.2.1 39) (tn (0 : Int32)) (tn (0 : Int32)) (tn (8 : Int32)))), v1.2.2)
  obtain rfl := Option.some.inj hf
  exact AW.vret (st := []) dX11_keepHomes_26 rfl ((show Sh v1.2.2 → _ from hK) hs)
