/-! ===== methods 13.class 7 ===== -/
def f_X11_judge_88 (N : Nat) (I : Nat → Nat → Int32) (J : Nat → Nat → Int64) (ρ : Rh) (p2 : Int32) (a8 : Nat) : Nat → Int32 → Option (((Nat → Nat → Int32) × (Nat → Nat → Int64) × (Rh) × Int32) ⊕ (Unit))
  | 0, _ => none
  | n + 1, i9 => (if ((I 42 0) ≤ i9) then some (Sum.inr ()) else (if ρ.2.1 a8 = (0, 7) then (Option.bind (ρ.1 a8 2) fun a11 => (if ρ.2.1 a11 = (1, (ρ.2.1 a11).2) then (if ¬ (i9 < 0 ∨ (ρ.2.1 a11).2 ≤ tn i9) then (if ¬ (p2 < 0 ∨ 12 ≤ tn p2) then (if ¬ (i9 < 0 ∨ 8 ≤ tn i9) then (if ((I a11 (tn i9)) = (I (64 + (tn p2)) (tn i9))) then f_X11_judge_88 N I J ρ p2 a8 n (i9 + (1 : Int32)) else some (Sum.inl (I, J, ρ, i9))) else none) else none) else none) else none)) else none))
theorem l_X11_judge_88 {G : Gd} {d N : Nat} {K : Ah → Option Value → Prop} {I : Nat → Nat → Int32} {J : Nat → Nat → Int64} {ρ : Rh} {p2 : Int32} {a8 : Nat} (hs : Sh ρ) {o : ((Nat → Nat → Int32) × (Nat → Nat → Int64) × (Rh) × Int32) ⊕ (Unit)} : ∀ (n : Nat) (i9 : Int32), f_X11_judge_88 N I J ρ p2 a8 n i9 = some o → scase o (fun r => (Sh r.2.2.1 → K (r.1, r.2.1, r.2.2.1) (some (.int r.2.2.2)))) (fun o => AW G mX11_judge (d + 6) 0 0 K 132 [none, none, none, none, none, none, none] [] (I, J, ρ)) → AW G mX11_judge (d + 6) 0 0 K 88 [some (.ref 32), none, some (.int p2), none, none, some (.ref a8), some (.int i9)] [] (I, J, ρ) := by
  intro n
  induction n with
  | zero => intro i9 hf hE; rw [f_X11_judge_88.eq_1] at hf; cases hf
  | succ n ih =>
    intro i9 hf hE
    rw [f_X11_judge_88.eq_2] at hf
    refine AW.iload dX11_judge_88 rfl ?_
    refine AW.aload_n dX11_judge_90 rfl ?_
    refine TW.getR fX11_50_11 hs.k32 (rf_some hs.r32_0) dX11_judge_91 ?_
    refine TW.getI (x := (I 42 0)) fX11_71_0 hs.k42 rfl dX11_judge_94 ?_
    refine AW.icmp_ge (tgt := 132) dX11_judge_97 (by decide) (fun hc => ?_) (fun hc => ?_)
    · have hf := (if_pos hc).symm.trans hf
      obtain rfl := Option.some.inj hf
      exact AW.weak _ (by exact trivial) hE
    · have hf := (if_neg hc).symm.trans hf
      refine AW.aload dX11_judge_100 rfl ?_
      obtain ⟨h10, hf⟩ := gd_split hf
      obtain ⟨a11, ga11, hf⟩ := ob_split hf
      refine TW.getR (v := .ref a11) fX11_232_7 h10 (rf_some ga11) dX11_judge_102 ?_
      refine AW.iload dX11_judge_105 rfl ?_
      obtain ⟨h12, hf⟩ := gd_split hf
      obtain ⟨h13, hf⟩ := gd_split hf
      refine TW.iald (x := (I a11 (tn i9))) h12 h13 rfl dX11_judge_107 ?_
      refine AW.aload_n dX11_judge_108 rfl ?_
      refine TW.getR fX11_59_11 hs.k32 (rf_some hs.r32_8) dX11_judge_109 ?_
      refine TW.getR fX11_195_10 hs.k48 (rf_some hs.r48_2) dX11_judge_112 ?_
      refine AW.iload_n dX11_judge_115 rfl ?_
      obtain ⟨h14, hf⟩ := gd_split hf
      have hl15 : (tn p2) < 12 := vp_lt h14
      refine TW.aald (t := 3) hs.k63 (by decide) h14 (rf_some (hs.e63 hl15)) dX11_judge_116 ?_
      refine AW.iload dX11_judge_117 rfl ?_
      obtain ⟨h16, hf⟩ := gd_split hf
      refine TW.iald (x := (I (64 + (tn p2)) (tn i9))) (hs.ek63 hl15) h16 rfl dX11_judge_119 ?_
      refine AW.icmp_eq (tgt := 126) dX11_judge_120 (by decide) (fun hc => ?_) (fun hc => ?_)
      · have hf := (if_pos hc).symm.trans hf
        refine AW.iinc (v := (i9 + (1 : Int32))) (ls' := [some (.ref 32), none, some (.int p2), none, none, some (.ref a8), some (.int (i9 + (1 : Int32)))]) dX11_judge_126 rfl rfl (Nat.le_of_ble_eq_true rfl) rfl ?_
        refine AW.goto (tgt := 88) dX11_judge_129 (by decide) ?_
        exact AW.weak _ (by exact (And.intro rfl (And.intro rfl (And.intro rfl (And.intro rfl trivial))))) (ih (i9 + (1 : Int32)) hf hE)
      · have hf := (if_neg hc).symm.trans hf
        refine AW.iload dX11_judge_123 rfl ?_
        obtain rfl := Option.some.inj hf
        exact AW.iret (st := []) dX11_judge_125 rfl ((show Sh ρ → _ from hE) hs)
def f_X11_judge (N : Nat) (ρ : Rh) (I : Nat → Nat → Int32) (J : Nat → Nat → Int64) (p1 : Int32) (p2 : Int32) (p3 : Int32) : Option ((Nat → Nat → Int32) × (Nat → Nat → Int64) × (Rh) × Int32) := (Option.bind (f_X11_ruleAt N ρ I J p1) fun v1 => (ocase v1 (some (I, J, ρ, (-5 : Int32))) (fun a2 => (if (p2 < (0 : Int32)) then some (I, J, ρ, (-5 : Int32)) else (if (p2 < (I 45 0)) then (Option.bind (f_X11_sheetAt N ρ I J p3) fun v3 => (ocase v3 (some (I, J, ρ, (-2 : Int32))) (fun a4 => (if ρ.2.1 a4 = (0, 7) then (Option.bind (f_X7_isMissing N ρ I J a4) fun v6 => (if (v6 = (0 : Int32)) then (if ((I a4 1) = (I 42 0)) then (Option.bind (f_X10_sail N ρ I J a2) fun v7 => ((f_X11_judge_88 N v7.1 v7.2.1 v7.2.2 p2 a4 N (0 : Int32)).bind fun j17 => scase j17 (fun r => some r) (fun j17 => some (v7.1, v7.2.1, v7.2.2, (-1 : Int32))))) else some (I, J, ρ, (-2 : Int32))) else some (I, J, ρ, (-11 : Int32)))) else none)))) else some (I, J, ρ, (-5 : Int32)))))))
theorem c_X11_judge {G : Gd} {d N : Nat} {K : Ah → Option Value → Prop} {ρ : Rh} {I : Nat → Nat → Int32} {J : Nat → Nat → Int64} {p1 : Int32} {p2 : Int32} {p3 : Int32} {o : (Nat → Nat → Int32) × (Nat → Nat → Int64) × (Rh) × Int32} (hs : Sh ρ) (hf : f_X11_judge N ρ I J p1 p2 p3 = some o) (hK : (Sh o.2.2.1 → K (o.1, o.2.1, o.2.2.1) (some (.int o.2.2.2)))) : AM G (d + 6) 0 0 mX11_judge [.ref 32, .int p1, .int p2, .int p3] (I, J, ρ) K := by
  unfold f_X11_judge at hf
  refine AM.intro okX11_judge.2.2.2.1 (Nat.le_of_ble_eq_true rfl) [some (.ref 32), some (.int p1), some (.int p2), some (.int p3), none, none, none] rfl ?_
  refine AW.aload_n dX11_judge_0 rfl ?_
  refine AW.iload_n dX11_judge_1 rfl ?_
  obtain ⟨v1, gv1, hf⟩ := ob_split hf
  refine TW.invv (as := [.int p1]) (rest := []) viX11_133_11 hs.k32 dX11_judge_2 rfl rfl (Nat.le_of_ble_eq_true rfl) (c_X11_ruleAt hs gv1 ?_)
  show AW G mX11_judge (d + 6) 0 0 K 5 [some (.ref 32), some (.int p1), some (.int p2), some (.int p3), none, none, none] [va_rf v1] (I, J, ρ)
  refine AW.astoreq (ls' := [some (.ref 32), some (.int p1), some (.int p2), some (.int p3), some (va_rf v1), none, none]) dX11_judge_5 (Nat.le_of_ble_eq_true rfl) rfl ?_
  refine AW.aloadq dX11_judge_7 rfl ?_
  refine AW.ifnull (tgt := 29) dX11_judge_9 (by decide) (fun hc => ?_) (fun a2 hc => ?_)
  · have hf := ocase_n hc hf
    try rw [hc]
    show AW G mX11_judge (d + 6) 0 0 K 29 [some (.ref 32), some (.int p1), some (.int p2), some (.int p3), some (.null), none, none] [] (I, J, ρ)
    refine AW.bipush (v := (-5 : Int32)) dX11_judge_29 (by decide) ?_
    obtain rfl := Option.some.inj hf
    exact AW.iret (st := []) dX11_judge_31 rfl ((show Sh ρ → _ from hK) hs)
  · have hf := ocase_s hc hf
    try rw [hc]
    show AW G mX11_judge (d + 6) 0 0 K 12 [some (.ref 32), some (.int p1), some (.int p2), some (.int p3), some (.ref a2), none, none] [] (I, J, ρ)
    refine AW.iload_n dX11_judge_12 rfl ?_
    refine AW.if_lt (tgt := 29) dX11_judge_13 (by decide) (fun hc => ?_) (fun hc => ?_)
    · have hf := (if_pos hc).symm.trans hf
      refine AW.bipush (v := (-5 : Int32)) dX11_judge_29 (by decide) ?_
      obtain rfl := Option.some.inj hf
      exact AW.iret (st := []) dX11_judge_31 rfl ((show Sh ρ → _ from hK) hs)
    · have hf := (if_neg hc).symm.trans hf
      refine AW.iload_n dX11_judge_16 rfl ?_
      refine AW.aload_n dX11_judge_17 rfl ?_
      refine TW.getR fX11_50_11 hs.k32 (rf_some hs.r32_0) dX11_judge_18 ?_
      refine TW.getR fX11_94_0 hs.k42 (rf_some hs.r42_3) dX11_judge_21 ?_
      refine AW.iconst (v := (0 : Int32)) dX11_judge_24 (by decide) ?_
      refine TW.iald (x := (I 45 0)) hs.k45 (show ¬ ((0 : Int32) < 0 ∨ 4 ≤ (0 : Int32).toNatClampNeg) by decide) rfl dX11_judge_25 ?_
      refine AW.icmp_lt (tgt := 32) dX11_judge_26 (by decide) (fun hc => ?_) (fun hc => ?_)
      · have hf := (if_pos hc).symm.trans hf
        refine AW.aload_n dX11_judge_32 rfl ?_
        refine AW.iload_n dX11_judge_33 rfl ?_
        obtain ⟨v3, gv3, hf⟩ := ob_split hf
        refine TW.invv (as := [.int p3]) (rest := []) viX11_116_11 hs.k32 dX11_judge_34 rfl rfl (Nat.le_of_ble_eq_true rfl) (c_X11_sheetAt hs gv3 ?_)
        show AW G mX11_judge (d + 6) 0 0 K 37 [some (.ref 32), some (.int p1), some (.int p2), some (.int p3), some (.ref a2), none, none] [va_rf v3] (I, J, ρ)
        refine AW.astoreq (ls' := [some (.ref 32), some (.int p1), some (.int p2), some (.int p3), some (.ref a2), some (va_rf v3), none]) dX11_judge_37 (Nat.le_of_ble_eq_true rfl) rfl ?_
        refine AW.aloadq dX11_judge_39 rfl ?_
        refine AW.ifnonnull (tgt := 47) dX11_judge_41 (by decide) (fun a4 hc => ?_) (fun hc => ?_)
        · have hf := ocase_s hc hf
          try rw [hc]
          show AW G mX11_judge (d + 6) 0 0 K 47 [some (.ref 32), some (.int p1), some (.int p2), some (.int p3), some (.ref a2), some (.ref a4), none] [] (I, J, ρ)
          refine AW.aload dX11_judge_47 rfl ?_
          obtain ⟨h5, hf⟩ := gd_split hf
          obtain ⟨v6, gv6, hf⟩ := ob_split hf
          refine TW.invv (as := []) (rest := []) viX11_120_7 h5 dX11_judge_49 rfl rfl (Nat.le_of_ble_eq_true rfl) (c_X7_isMissing hs gv6 ?_)
          show AW G mX11_judge (d + 6) 0 0 K 52 [some (.ref 32), some (.int p1), some (.int p2), some (.int p3), some (.ref a2), some (.ref a4), none] [.int v6] (I, J, ρ)
          refine AW.if_eq (tgt := 58) dX11_judge_52 (by decide) (fun hc => ?_) (fun hc => ?_)
          · have hf := (if_pos hc).symm.trans hf
            refine AW.aload dX11_judge_58 rfl ?_
            refine TW.getI (x := (I a4 1)) fX11_124_7 h5 rfl dX11_judge_60 ?_
            refine AW.aload_n dX11_judge_63 rfl ?_
            refine TW.getR fX11_50_11 hs.k32 (rf_some hs.r32_0) dX11_judge_64 ?_
            refine TW.getI (x := (I 42 0)) fX11_71_0 hs.k42 rfl dX11_judge_67 ?_
            refine AW.icmp_eq (tgt := 76) dX11_judge_70 (by decide) (fun hc => ?_) (fun hc => ?_)
            · have hf := (if_pos hc).symm.trans hf
              refine AW.aload_n dX11_judge_76 rfl ?_
              refine TW.getR fX11_59_11 hs.k32 (rf_some hs.r32_8) dX11_judge_77 ?_
              refine AW.aload dX11_judge_80 rfl ?_
              obtain ⟨v7, gv7, hf⟩ := ob_split hf
              refine TW.invv (as := [.ref a2]) (rest := []) viX11_177_10 hs.k48 dX11_judge_82 rfl rfl (Nat.le_of_ble_eq_true rfl) (c_X10_sail hs gv7 (fun hs => ?_))
              show AW G mX11_judge (d + 6) 0 0 K 85 [some (.ref 32), some (.int p1), some (.int p2), some (.int p3), some (.ref a2), some (.ref a4), none] [] (v7.1, v7.2.1, v7.2.2)
              refine AW.iconst (v := (0 : Int32)) dX11_judge_85 (by decide) ?_
              refine AW.istore (ls' := [some (.ref 32), some (.int p1), some (.int p2), some (.int p3), some (.ref a2), some (.ref a4), some (.int (0 : Int32))]) dX11_judge_86 (Nat.le_of_ble_eq_true rfl) rfl ?_
              obtain ⟨j17, gj17, hf⟩ := ob_split hf
              refine AW.weak _ (by exact (And.intro rfl (And.intro rfl (And.intro rfl (And.intro rfl trivial))))) (l_X11_judge_88 hs N (0 : Int32) gj17 ?_)
              rcases j17 with r | j17
              · obtain rfl := Option.some.inj hf; exact hK
              · show AW G mX11_judge (d + 6) 0 0 K 132 [none, none, none, none, none, none, none] [] (v7.1, v7.2.1, v7.2.2)
                refine AW.iconst (v := (-1 : Int32)) dX11_judge_132 (by decide) ?_
                obtain rfl := Option.some.inj hf
                exact AW.iret (st := []) dX11_judge_133 rfl ((show Sh v7.2.2 → _ from hK) hs)
            · have hf := (if_neg hc).symm.trans hf
              refine AW.bipush (v := (-2 : Int32)) dX11_judge_73 (by decide) ?_
              obtain rfl := Option.some.inj hf
              exact AW.iret (st := []) dX11_judge_75 rfl ((show Sh ρ → _ from hK) hs)
          · have hf := (if_neg hc).symm.trans hf
            refine AW.bipush (v := (-11 : Int32)) dX11_judge_55 (by decide) ?_
            obtain rfl := Option.some.inj hf
            exact AW.iret (st := []) dX11_judge_57 rfl ((show Sh ρ → _ from hK) hs)
        · have hf := ocase_n hc hf
          try rw [hc]
          show AW G mX11_judge (d + 6) 0 0 K 44 [some (.ref 32), some (.int p1), some (.int p2), some (.int p3), some (.ref a2), some (.null), none] [] (I, J, ρ)
          refine AW.bipush (v := (-2 : Int32)) dX11_judge_44 (by decide) ?_
          obtain rfl := Option.some.inj hf
          exact AW.iret (st := []) dX11_judge_46 rfl ((show Sh ρ → _ from hK) hs)
      · have hf := (if_neg hc).symm.trans hf
        refine AW.bipush (v := (-5 : Int32)) dX11_judge_29 (by decide) ?_
        obtain rfl := Option.some.inj hf
        exact AW.iret (st := []) dX11_judge_31 rfl ((show Sh ρ → _ from hK) hs)
def f_X11_until_35 (N : Nat) (I : Nat → Nat → Int32) (J : Nat → Nat → Int64) (ρ : Rh) (p2 : Int32) : Nat → Int32 → Int32 → Option (Int32)
  | 0, _, _ => none
  | n + 1, i5, i6 => (Option.bind (f_X10_shipDays N ρ I J) fun v7 => (if (v7 ≤ i6) then some i5 else (if ¬ (i6 < 0 ∨ 13 ≤ tn i6) then (if ¬ (p2 < 0 ∨ 8 ≤ tn p2) then (((if ((I (50 + (tn i6)) (tn p2)) ≤ (0 : Int32)) then some i5 else some i6) : Option (Int32)).bind fun j11 => f_X11_until_35 N I J ρ p2 n j11 (i6 + (1 : Int32))) else none) else none)))
theorem l_X11_until_35 {G : Gd} {d N : Nat} {K : Ah → Option Value → Prop} {I : Nat → Nat → Int32} {J : Nat → Nat → Int64} {ρ : Rh} {p2 : Int32} (hs : Sh ρ) {o : Int32} : ∀ (n : Nat) (i5 : Int32) (i6 : Int32), f_X11_until_35 N I J ρ p2 n i5 i6 = some o → AW G mX11_until (d + 6) 0 0 K 72 [none, none, none, none, some (.int o), none] [] (I, J, ρ) → AW G mX11_until (d + 6) 0 0 K 35 [some (.ref 32), none, some (.int p2), none, some (.int i5), some (.int i6)] [] (I, J, ρ) := by
  intro n
  induction n with
  | zero => intro i5 i6 hf hE; rw [f_X11_until_35.eq_1] at hf; cases hf
  | succ n ih =>
    intro i5 i6 hf hE
    rw [f_X11_until_35.eq_2] at hf
    refine AW.iload dX11_until_35 rfl ?_
    refine AW.aload_n dX11_until_37 rfl ?_
    refine TW.getR fX11_59_11 hs.k32 (rf_some hs.r32_8) dX11_until_38 ?_
    obtain ⟨v7, gv7, hf⟩ := ob_split hf
    refine TW.invv (as := []) (rest := [.int i6]) viX11_235_10 hs.k48 dX11_until_41 rfl rfl (Nat.le_of_ble_eq_true rfl) (c_X10_shipDays hs gv7 ?_)
    show AW G mX11_until (d + 6) 0 0 K 44 [some (.ref 32), none, some (.int p2), none, some (.int i5), some (.int i6)] [.int v7, .int i6] (I, J, ρ)
    refine AW.icmp_ge (tgt := 72) dX11_until_44 (by decide) (fun hc => ?_) (fun hc => ?_)
    · have hf := (if_pos hc).symm.trans hf
      obtain rfl := Option.some.inj hf
      exact AW.weak _ (by exact (And.intro rfl trivial)) hE
    · have hf := (if_neg hc).symm.trans hf
      refine AW.aload_n dX11_until_47 rfl ?_
      refine TW.getR fX11_59_11 hs.k32 (rf_some hs.r32_8) dX11_until_48 ?_
      refine TW.getR fX11_192_10 hs.k48 (rf_some hs.r48_1) dX11_until_51 ?_
      refine AW.iload dX11_until_54 rfl ?_
      obtain ⟨h8, hf⟩ := gd_split hf
      have hl9 : (tn i6) < 13 := vp_lt h8
      refine TW.aald (t := 3) hs.k49 (by decide) h8 (rf_some (hs.e49 hl9)) dX11_until_56 ?_
      refine AW.iload_n dX11_until_57 rfl ?_
      obtain ⟨h10, hf⟩ := gd_split hf
      refine TW.iald (x := (I (50 + (tn i6)) (tn p2))) (hs.ek49 hl9) h10 rfl dX11_until_58 ?_
      obtain ⟨j11, gj11, hf⟩ := ob_split hf
      have Kj11 : AW G mX11_until (d + 6) 0 0 K 66 [some (.ref 32), none, some (.int p2), none, some (.int j11), some (.int i6)] [] (I, J, ρ) := by
        refine AW.iinc (v := (i6 + (1 : Int32))) (ls' := [some (.ref 32), none, some (.int p2), none, some (.int j11), some (.int (i6 + (1 : Int32)))]) dX11_until_66 rfl rfl (Nat.le_of_ble_eq_true rfl) rfl ?_
        refine AW.goto (tgt := 35) dX11_until_69 (by decide) ?_
        exact AW.weak _ (by exact (And.intro rfl (And.intro rfl (And.intro rfl (And.intro rfl trivial))))) (ih j11 (i6 + (1 : Int32)) hf hE)
      clear hf; have hf := gj11; clear gj11
      refine AW.if_le (tgt := 66) dX11_until_59 (by decide) (fun hc => ?_) (fun hc => ?_)
      · have hf := (if_pos hc).symm.trans hf
        obtain rfl := Option.some.inj hf
        exact AW.weak _ (by exact (And.intro rfl (And.intro rfl (And.intro rfl (And.intro rfl trivial))))) Kj11
      · have hf := (if_neg hc).symm.trans hf
        refine AW.iload dX11_until_62 rfl ?_
        refine AW.istore (ls' := [some (.ref 32), none, some (.int p2), none, some (.int i6), some (.int i6)]) dX11_until_64 (Nat.le_of_ble_eq_true rfl) rfl ?_
        obtain rfl := Option.some.inj hf
        exact AW.weak _ (by exact (And.intro rfl (And.intro rfl (And.intro rfl (And.intro rfl trivial))))) Kj11
def f_X11_until (N : Nat) (ρ : Rh) (I : Nat → Nat → Int32) (J : Nat → Nat → Int64) (p1 : Int32) (p2 : Int32) : Option ((Nat → Nat → Int32) × (Nat → Nat → Int64) × (Rh) × Int32) := (Option.bind (f_X11_ruleAt N ρ I J p1) fun v1 => (ocase v1 (some (I, J, ρ, (-5 : Int32))) (fun a2 => (Option.bind (f_X11_isMan N ρ I J p2) fun v3 => (if (v3 = (0 : Int32)) then some (I, J, ρ, (-5 : Int32)) else (Option.bind (f_X10_sail N ρ I J a2) fun v4 => ((f_X11_until_35 N v4.1 v4.2.1 v4.2.2 p2 N (0 : Int32) (0 : Int32)).bind fun j12 => some (v4.1, v4.2.1, v4.2.2, j12))))))))
theorem c_X11_until {G : Gd} {d N : Nat} {K : Ah → Option Value → Prop} {ρ : Rh} {I : Nat → Nat → Int32} {J : Nat → Nat → Int64} {p1 : Int32} {p2 : Int32} {o : (Nat → Nat → Int32) × (Nat → Nat → Int64) × (Rh) × Int32} (hs : Sh ρ) (hf : f_X11_until N ρ I J p1 p2 = some o) (hK : (Sh o.2.2.1 → K (o.1, o.2.1, o.2.2.1) (some (.int o.2.2.2)))) : AM G (d + 6) 0 0 mX11_until [.ref 32, .int p1, .int p2] (I, J, ρ) K := by
  unfold f_X11_until at hf
  refine AM.intro okX11_until.2.2.2.1 (Nat.le_of_ble_eq_true rfl) [some (.ref 32), some (.int p1), some (.int p2), none, none, none] rfl ?_
  refine AW.aload_n dX11_until_0 rfl ?_
  refine AW.iload_n dX11_until_1 rfl ?_
  obtain ⟨v1, gv1, hf⟩ := ob_split hf
  refine TW.invv (as := [.int p1]) (rest := []) viX11_133_11 hs.k32 dX11_until_2 rfl rfl (Nat.le_of_ble_eq_true rfl) (c_X11_ruleAt hs gv1 ?_)
  show AW G mX11_until (d + 6) 0 0 K 5 [some (.ref 32), some (.int p1), some (.int p2), none, none, none] [va_rf v1] (I, J, ρ)
  refine AW.astore_nq (ls' := [some (.ref 32), some (.int p1), some (.int p2), some (va_rf v1), none, none]) dX11_until_5 (Nat.le_of_ble_eq_true rfl) rfl ?_
  refine AW.aload_nq dX11_until_6 rfl ?_
  refine AW.ifnull (tgt := 18) dX11_until_7 (by decide) (fun hc => ?_) (fun a2 hc => ?_)
  · have hf := ocase_n hc hf
    try rw [hc]
    show AW G mX11_until (d + 6) 0 0 K 18 [some (.ref 32), some (.int p1), some (.int p2), some (.null), none, none] [] (I, J, ρ)
    refine AW.bipush (v := (-5 : Int32)) dX11_until_18 (by decide) ?_
    obtain rfl := Option.some.inj hf
    exact AW.iret (st := []) dX11_until_20 rfl ((show Sh ρ → _ from hK) hs)
  · have hf := ocase_s hc hf
    try rw [hc]
    show AW G mX11_until (d + 6) 0 0 K 10 [some (.ref 32), some (.int p1), some (.int p2), some (.ref a2), none, none] [] (I, J, ρ)
    refine AW.aload_n dX11_until_10 rfl ?_
    refine AW.iload_n dX11_until_11 rfl ?_
    obtain ⟨v3, gv3, hf⟩ := ob_split hf
    refine TW.invv (as := [.int p2]) (rest := []) viX11_81_11 hs.k32 dX11_until_12 rfl rfl (Nat.le_of_ble_eq_true rfl) (c_X11_isMan hs gv3 ?_)
    show AW G mX11_until (d + 6) 0 0 K 15 [some (.ref 32), some (.int p1), some (.int p2), some (.ref a2), none, none] [.int v3] (I, J, ρ)
    refine AW.if_ne (tgt := 21) dX11_until_15 (by decide) (fun hc => ?_) (fun hc => ?_)
    · have hf := (if_neg hc).symm.trans hf
      refine AW.aload_n dX11_until_21 rfl ?_
      refine TW.getR fX11_59_11 hs.k32 (rf_some hs.r32_8) dX11_until_22 ?_
      refine AW.aload_n dX11_until_25 rfl ?_
      obtain ⟨v4, gv4, hf⟩ := ob_split hf
      refine TW.invv (as := [.ref a2]) (rest := []) viX11_177_10 hs.k48 dX11_until_26 rfl rfl (Nat.le_of_ble_eq_true rfl) (c_X10_sail hs gv4 (fun hs => ?_))
      show AW G mX11_until (d + 6) 0 0 K 29 [some (.ref 32), some (.int p1), some (.int p2), some (.ref a2), none, none] [] (v4.1, v4.2.1, v4.2.2)
      refine AW.iconst (v := (0 : Int32)) dX11_until_29 (by decide) ?_
      refine AW.istore (ls' := [some (.ref 32), some (.int p1), some (.int p2), some (.ref a2), some (.int (0 : Int32)), none]) dX11_until_30 (Nat.le_of_ble_eq_true rfl) rfl ?_
      refine AW.iconst (v := (0 : Int32)) dX11_until_32 (by decide) ?_
      refine AW.istore (ls' := [some (.ref 32), some (.int p1), some (.int p2), some (.ref a2), some (.int (0 : Int32)), some (.int (0 : Int32))]) dX11_until_33 (Nat.le_of_ble_eq_true rfl) rfl ?_
      obtain ⟨j12, gj12, hf⟩ := ob_split hf
      refine AW.weak _ (by exact (And.intro rfl (And.intro rfl (And.intro rfl (And.intro rfl trivial))))) (l_X11_until_35 hs N (0 : Int32) (0 : Int32) gj12 ?_)
      show AW G mX11_until (d + 6) 0 0 K 72 [none, none, none, none, some (.int j12), none] [] (v4.1, v4.2.1, v4.2.2)
      refine AW.iload dX11_until_72 rfl ?_
      obtain rfl := Option.some.inj hf
      exact AW.iret (st := []) dX11_until_74 rfl ((show Sh v4.2.2 → _ from hK) hs)
    · have hf := (if_pos hc).symm.trans hf
      refine AW.bipush (v := (-5 : Int32)) dX11_until_18 (by decide) ?_
      obtain rfl := Option.some.inj hf
      exact AW.iret (st := []) dX11_until_20 rfl ((show Sh ρ → _ from hK) hs)
def f_X11_back (N : Nat) (ρ : Rh) (I : Nat → Nat → Int32) (J : Nat → Nat → Int64) : Option ((Nat → Nat → Int32) × (Rh) × Int32) := (bnd (ρ.1 32 1) fun o1 => (ocase o1 (some (I, ρ, (-3 : Int32))) (fun a2 => (Option.bind (f_X0_keep N ρ I J 42 a2) fun v3 => some (v3.1, v3.2, (v3.1 42 0))))))
theorem c_X11_back {G : Gd} {d N : Nat} {K : Ah → Option Value → Prop} {ρ : Rh} {I : Nat → Nat → Int32} {J : Nat → Nat → Int64} {o : (Nat → Nat → Int32) × (Rh) × Int32} (hs : Sh ρ) (hf : f_X11_back N ρ I J = some o) (hK : (Sh o.2.1 → K (o.1, J, o.2.1) (some (.int o.2.2)))) : AM G (d + 2) 0 0 mX11_back [.ref 32] (I, J, ρ) K := by
  unfold f_X11_back at hf
  refine AM.intro okX11_back.2.2.2.1 (Nat.le_of_ble_eq_true rfl) [some (.ref 32)] rfl ?_
  refine AW.aload_n dX11_back_0 rfl ?_
  obtain ⟨o1, go1, hf⟩ := bnd_one hf
  refine TW.getR (v := va_rf o1) fX11_238_11 hs.k32 (congrArg va_rf go1) dX11_back_1 ?_
  refine AW.ifnonnull (tgt := 10) dX11_back_4 (by decide) (fun a2 hc => ?_) (fun hc => ?_)
  · have hf := ocase_s hc hf
    have hma2 := go1.trans hc
    try rw [hc]
    show AW G mX11_back (d + 2) 0 0 K 10 [some (.ref 32)] [] (I, J, ρ)
    refine AW.aload_n dX11_back_10 rfl ?_
    refine TW.getR fX11_50_11 hs.k32 (rf_some hs.r32_0) dX11_back_11 ?_
    refine AW.aload_n dX11_back_14 rfl ?_
    refine TW.getR (v := .ref a2) fX11_238_11 hs.k32 (rf_some hma2) dX11_back_15 ?_
    obtain ⟨v3, gv3, hf⟩ := ob_split hf
    refine TW.invv (as := [.ref a2]) (rest := []) viX11_241_0 hs.k42 dX11_back_18 rfl rfl (Nat.le_of_ble_eq_true rfl) (c_X0_keep hs gv3 (fun hs => ?_))
    show AW G mX11_back (d + 2) 0 0 K 21 [some (.ref 32)] [] (v3.1, J, v3.2)
    refine AW.aload_n dX11_back_21 rfl ?_
    refine TW.getR fX11_50_11 hs.k32 (rf_some hs.r32_0) dX11_back_22 ?_
    refine TW.getI (x := (v3.1 42 0)) fX11_71_0 hs.k42 rfl dX11_back_25 ?_
    obtain rfl := Option.some.inj hf
    exact AW.iret (st := []) dX11_back_28 rfl ((show Sh v3.2 → _ from hK) hs)
  · have hf := ocase_n hc hf
    try rw [hc]
    show AW G mX11_back (d + 2) 0 0 K 7 [some (.ref 32)] [] (I, J, ρ)
    refine AW.bipush (v := (-3 : Int32)) dX11_back_7 (by decide) ?_
    obtain rfl := Option.some.inj hf
    exact AW.iret (st := []) dX11_back_9 rfl ((show Sh ρ → _ from hK) hs)
def f_X11_sheet (N : Nat) (ρ : Rh) (I : Nat → Nat → Int32) (J : Nat → Nat → Int64) (p1 : Int32) (p2 : Int32) (p3 : Int32) : Option ((Nat → Nat → Int32) × Int32) := (Option.bind (f_X11_sheetAt N ρ I J p1) fun v1 => (ocase v1 (some (I, (-2 : Int32))) (fun a2 => (if (p2 < (-1 : Int32)) then some (I, (-2 : Int32)) else (if (p2 ≤ (2 : Int32)) then (if (p2 = (-1 : Int32)) then (if ρ.2.1 a2 = (0, 7) then (Option.bind (f_X7_become N ρ I J a2 p2 (0 : Int32)) fun v4 => some (v4, (1 : Int32))) else none) else (if (p3 ≤ (40 : Int32)) then (if ((0 : Int32) ≤ p3) then (if ρ.2.1 a2 = (0, 7) then (Option.bind (f_X7_become N ρ I J a2 p2 p3) fun v6 => some (v6, (1 : Int32))) else none) else some (I, (-14 : Int32))) else some (I, (-2 : Int32)))) else some (I, (-2 : Int32)))))))
theorem c_X11_sheet {G : Gd} {d N : Nat} {K : Ah → Option Value → Prop} {ρ : Rh} {I : Nat → Nat → Int32} {J : Nat → Nat → Int64} {p1 : Int32} {p2 : Int32} {p3 : Int32} {o : (Nat → Nat → Int32) × Int32} (hs : Sh ρ) (hf : f_X11_sheet N ρ I J p1 p2 p3 = some o) (hK : K (o.1, J, ρ) (some (.int o.2))) : AM G (d + 2) 0 0 mX11_sheet [.ref 32, .int p1, .int p2, .int p3] (I, J, ρ) K := by
  unfold f_X11_sheet at hf
  refine AM.intro okX11_sheet.2.2.2.1 (Nat.le_of_ble_eq_true rfl) [some (.ref 32), some (.int p1), some (.int p2), some (.int p3), none] rfl ?_
  refine AW.aload_n dX11_sheet_0 rfl ?_
  refine AW.iload_n dX11_sheet_1 rfl ?_
  obtain ⟨v1, gv1, hf⟩ := ob_split hf
  refine TW.invv (as := [.int p1]) (rest := []) viX11_116_11 hs.k32 dX11_sheet_2 rfl rfl (Nat.le_of_ble_eq_true rfl) (c_X11_sheetAt hs gv1 ?_)
  show AW G mX11_sheet (d + 2) 0 0 K 5 [some (.ref 32), some (.int p1), some (.int p2), some (.int p3), none] [va_rf v1] (I, J, ρ)
  refine AW.astoreq (ls' := [some (.ref 32), some (.int p1), some (.int p2), some (.int p3), some (va_rf v1)]) dX11_sheet_5 (Nat.le_of_ble_eq_true rfl) rfl ?_
  refine AW.aloadq dX11_sheet_7 rfl ?_
  refine AW.ifnull (tgt := 22) dX11_sheet_9 (by decide) (fun hc => ?_) (fun a2 hc => ?_)
  · have hf := ocase_n hc hf
    try rw [hc]
    show AW G mX11_sheet (d + 2) 0 0 K 22 [some (.ref 32), some (.int p1), some (.int p2), some (.int p3), some (.null)] [] (I, J, ρ)
    refine AW.bipush (v := (-2 : Int32)) dX11_sheet_22 (by decide) ?_
    obtain rfl := Option.some.inj hf
    exact AW.iret (st := []) dX11_sheet_24 rfl hK
  · have hf := ocase_s hc hf
    try rw [hc]
    show AW G mX11_sheet (d + 2) 0 0 K 12 [some (.ref 32), some (.int p1), some (.int p2), some (.int p3), some (.ref a2)] [] (I, J, ρ)
    refine AW.iload_n dX11_sheet_12 rfl ?_
    refine AW.iconst (v := (-1 : Int32)) dX11_sheet_13 (by decide) ?_
    refine AW.icmp_lt (tgt := 22) dX11_sheet_14 (by decide) (fun hc => ?_) (fun hc => ?_)
    · have hf := (if_pos hc).symm.trans hf
      refine AW.bipush (v := (-2 : Int32)) dX11_sheet_22 (by decide) ?_
      obtain rfl := Option.some.inj hf
      exact AW.iret (st := []) dX11_sheet_24 rfl hK
    · have hf := (if_neg hc).symm.trans hf
      refine AW.iload_n dX11_sheet_17 rfl ?_
      refine AW.iconst (v := (2 : Int32)) dX11_sheet_18 (by decide) ?_
      refine AW.icmp_le (tgt := 25) dX11_sheet_19 (by decide) (fun hc => ?_) (fun hc => ?_)
      · have hf := (if_pos hc).symm.trans hf
        refine AW.iload_n dX11_sheet_25 rfl ?_
        refine AW.iconst (v := (-1 : Int32)) dX11_sheet_26 (by decide) ?_
        refine AW.icmp_ne (tgt := 39) dX11_sheet_27 (by decide) (fun hc => ?_) (fun hc => ?_)
        · have hf := (if_neg hc).symm.trans hf
          refine AW.iload_n dX11_sheet_39 rfl ?_
          refine AW.bipush (v := (40 : Int32)) dX11_sheet_40 (by decide) ?_
          refine AW.icmp_le (tgt := 48) dX11_sheet_42 (by decide) (fun hc => ?_) (fun hc => ?_)
          · have hf := (if_pos hc).symm.trans hf
            refine AW.iload_n dX11_sheet_48 rfl ?_
            refine AW.if_ge (tgt := 55) dX11_sheet_49 (by decide) (fun hc => ?_) (fun hc => ?_)
            · have hf := (if_pos hc).symm.trans hf
              refine AW.aload dX11_sheet_55 rfl ?_
              refine AW.iload_n dX11_sheet_57 rfl ?_
              refine AW.iload_n dX11_sheet_58 rfl ?_
              obtain ⟨h5, hf⟩ := gd_split hf
              obtain ⟨v6, gv6, hf⟩ := ob_split hf
              refine TW.invv (as := [.int p2, .int p3]) (rest := []) viX11_244_7 h5 dX11_sheet_59 rfl rfl (Nat.le_of_ble_eq_true rfl) (c_X7_become hs gv6 ?_)
              show AW G mX11_sheet (d + 2) 0 0 K 62 [some (.ref 32), some (.int p1), some (.int p2), some (.int p3), some (.ref a2)] [] (v6, J, ρ)
              refine AW.iconst (v := (1 : Int32)) dX11_sheet_62 (by decide) ?_
              obtain rfl := Option.some.inj hf
              exact AW.iret (st := []) dX11_sheet_63 rfl hK
            · have hf := (if_neg hc).symm.trans hf
              refine AW.bipush (v := (-14 : Int32)) dX11_sheet_52 (by decide) ?_
              obtain rfl := Option.some.inj hf
              exact AW.iret (st := []) dX11_sheet_54 rfl hK
          · have hf := (if_neg hc).symm.trans hf
            refine AW.bipush (v := (-2 : Int32)) dX11_sheet_45 (by decide) ?_
            obtain rfl := Option.some.inj hf
            exact AW.iret (st := []) dX11_sheet_47 rfl hK
        · have hf := (if_pos hc).symm.trans hf
          refine AW.aload dX11_sheet_30 rfl ?_
          refine AW.iload_n dX11_sheet_32 rfl ?_
          refine AW.iconst (v := (0 : Int32)) dX11_sheet_33 (by decide) ?_
          obtain ⟨h3, hf⟩ := gd_split hf
          obtain ⟨v4, gv4, hf⟩ := ob_split hf
          refine TW.invv (as := [.int p2, .int (0 : Int32)]) (rest := []) viX11_244_7 h3 dX11_sheet_34 rfl rfl (Nat.le_of_ble_eq_true rfl) (c_X7_become hs gv4 ?_)
          show AW G mX11_sheet (d + 2) 0 0 K 37 [some (.ref 32), some (.int p1), some (.int p2), some (.int p3), some (.ref a2)] [] (v4, J, ρ)
          refine AW.iconst (v := (1 : Int32)) dX11_sheet_37 (by decide) ?_
          obtain rfl := Option.some.inj hf
          exact AW.iret (st := []) dX11_sheet_38 rfl hK
      · have hf := (if_neg hc).symm.trans hf
        refine AW.bipush (v := (-2 : Int32)) dX11_sheet_22 (by decide) ?_
        obtain rfl := Option.some.inj hf
        exact AW.iret (st := []) dX11_sheet_24 rfl hK
def f_X11_cell (N : Nat) (ρ : Rh) (I : Nat → Nat → Int32) (J : Nat → Nat → Int64) (p1 : Int32) (p2 : Int32) (p3 : Int32) : Option ((Nat → Nat → Int32) × Int32) := (Option.bind (f_X11_sheetAt N ρ I J p1) fun v1 => (ocase v1 (some (I, (-2 : Int32))) (fun a2 => (if ρ.2.1 a2 = (0, 7) then (Option.bind (f_X7_isMissing N ρ I J a2) fun v4 => (if (v4 = (0 : Int32)) then (if (p2 < (0 : Int32)) then some (I, (-12 : Int32)) else (if (p2 < (I a2 1)) then (Option.bind (ρ.1 a2 2) fun a5 => (Option.bind (f_X7_cut N ρ I J a2 p3) fun v6 => (if ρ.2.1 a5 = (1, (ρ.2.1 a5).2) then (if ¬ (p2 < 0 ∨ (ρ.2.1 a5).2 ≤ tn p2) then some ((u2 I a5 (tn p2) v6), (1 : Int32)) else none) else none))) else some (I, (-12 : Int32)))) else some (I, (-11 : Int32)))) else none))))
theorem c_X11_cell {G : Gd} {d N : Nat} {K : Ah → Option Value → Prop} {ρ : Rh} {I : Nat → Nat → Int32} {J : Nat → Nat → Int64} {p1 : Int32} {p2 : Int32} {p3 : Int32} {o : (Nat → Nat → Int32) × Int32} (hs : Sh ρ) (hf : f_X11_cell N ρ I J p1 p2 p3 = some o) (hK : K (o.1, J, ρ) (some (.int o.2))) : AM G (d + 1) 0 0 mX11_cell [.ref 32, .int p1, .int p2, .int p3] (I, J, ρ) K := by
  unfold f_X11_cell at hf
  refine AM.intro okX11_cell.2.2.2.1 (Nat.le_of_ble_eq_true rfl) [some (.ref 32), some (.int p1), some (.int p2), some (.int p3), none] rfl ?_
  refine AW.aload_n dX11_cell_0 rfl ?_
  refine AW.iload_n dX11_cell_1 rfl ?_
  obtain ⟨v1, gv1, hf⟩ := ob_split hf
  refine TW.invv (as := [.int p1]) (rest := []) viX11_116_11 hs.k32 dX11_cell_2 rfl rfl (Nat.le_of_ble_eq_true rfl) (c_X11_sheetAt hs gv1 ?_)
  show AW G mX11_cell (d + 1) 0 0 K 5 [some (.ref 32), some (.int p1), some (.int p2), some (.int p3), none] [va_rf v1] (I, J, ρ)
  refine AW.astoreq (ls' := [some (.ref 32), some (.int p1), some (.int p2), some (.int p3), some (va_rf v1)]) dX11_cell_5 (Nat.le_of_ble_eq_true rfl) rfl ?_
  refine AW.aloadq dX11_cell_7 rfl ?_
  refine AW.ifnonnull (tgt := 15) dX11_cell_9 (by decide) (fun a2 hc => ?_) (fun hc => ?_)
  · have hf := ocase_s hc hf
    try rw [hc]
    show AW G mX11_cell (d + 1) 0 0 K 15 [some (.ref 32), some (.int p1), some (.int p2), some (.int p3), some (.ref a2)] [] (I, J, ρ)
    refine AW.aload dX11_cell_15 rfl ?_
    obtain ⟨h3, hf⟩ := gd_split hf
    obtain ⟨v4, gv4, hf⟩ := ob_split hf
    refine TW.invv (as := []) (rest := []) viX11_120_7 h3 dX11_cell_17 rfl rfl (Nat.le_of_ble_eq_true rfl) (c_X7_isMissing hs gv4 ?_)
    show AW G mX11_cell (d + 1) 0 0 K 20 [some (.ref 32), some (.int p1), some (.int p2), some (.int p3), some (.ref a2)] [.int v4] (I, J, ρ)
    refine AW.if_eq (tgt := 26) dX11_cell_20 (by decide) (fun hc => ?_) (fun hc => ?_)
    · have hf := (if_pos hc).symm.trans hf
      refine AW.iload_n dX11_cell_26 rfl ?_
      refine AW.if_lt (tgt := 39) dX11_cell_27 (by decide) (fun hc => ?_) (fun hc => ?_)
      · have hf := (if_pos hc).symm.trans hf
        refine AW.bipush (v := (-12 : Int32)) dX11_cell_39 (by decide) ?_
        obtain rfl := Option.some.inj hf
        exact AW.iret (st := []) dX11_cell_41 rfl hK
      · have hf := (if_neg hc).symm.trans hf
        refine AW.iload_n dX11_cell_30 rfl ?_
        refine AW.aload dX11_cell_31 rfl ?_
        refine TW.getI (x := (I a2 1)) fX11_124_7 h3 rfl dX11_cell_33 ?_
        refine AW.icmp_lt (tgt := 42) dX11_cell_36 (by decide) (fun hc => ?_) (fun hc => ?_)
        · have hf := (if_pos hc).symm.trans hf
          refine AW.aload dX11_cell_42 rfl ?_
          obtain ⟨a5, ga5, hf⟩ := ob_split hf
          refine TW.getR (v := .ref a5) fX11_232_7 h3 (rf_some ga5) dX11_cell_44 ?_
          refine AW.iload_n dX11_cell_47 rfl ?_
          refine AW.aload dX11_cell_48 rfl ?_
          refine AW.iload_n dX11_cell_50 rfl ?_
          obtain ⟨v6, gv6, hf⟩ := ob_split hf
          refine TW.invv (as := [.int p3]) (rest := [.int p2, .ref a5]) viX11_248_7 h3 dX11_cell_51 rfl rfl (Nat.le_of_ble_eq_true rfl) (c_X7_cut hs gv6 ?_)
          show AW G mX11_cell (d + 1) 0 0 K 54 [some (.ref 32), some (.int p1), some (.int p2), some (.int p3), some (.ref a2)] [.int v6, .int p2, .ref a5] (I, J, ρ)
          obtain ⟨h7, hf⟩ := gd_split hf
          obtain ⟨h8, hf⟩ := gd_split hf
          refine TW.iast h7 h8 dX11_cell_54 ?_
          show AW G mX11_cell (d + 1) 0 0 K 55 [some (.ref 32), some (.int p1), some (.int p2), some (.int p3), some (.ref a2)] [] ((u2 I a5 (tn p2) v6), J, ρ)
          refine AW.iconst (v := (1 : Int32)) dX11_cell_55 (by decide) ?_
          obtain rfl := Option.some.inj hf
          exact AW.iret (st := []) dX11_cell_56 rfl hK
        · have hf := (if_neg hc).symm.trans hf
          refine AW.bipush (v := (-12 : Int32)) dX11_cell_39 (by decide) ?_
          obtain rfl := Option.some.inj hf
          exact AW.iret (st := []) dX11_cell_41 rfl hK
    · have hf := (if_neg hc).symm.trans hf
      refine AW.bipush (v := (-11 : Int32)) dX11_cell_23 (by decide) ?_
      obtain rfl := Option.some.inj hf
      exact AW.iret (st := []) dX11_cell_25 rfl hK
  · have hf := ocase_n hc hf
    try rw [hc]
    show AW G mX11_cell (d + 1) 0 0 K 12 [some (.ref 32), some (.int p1), some (.int p2), some (.int p3), some (.null)] [] (I, J, ρ)
    refine AW.bipush (v := (-2 : Int32)) dX11_cell_12 (by decide) ?_
    obtain rfl := Option.some.inj hf
    exact AW.iret (st := []) dX11_cell_14 rfl hK
def f_X11_copy (N : Nat) (ρ : Rh) (I : Nat → Nat → Int32) (J : Nat → Nat → Int64) (p1 : Int32) (p2 : Int32) (p3 : Int32) (p4 : Int32) (p5 : Int32) : Option ((Nat → Nat → Int32) × Int32) := (Option.bind (f_X11_sheetAt N ρ I J p1) fun v1 => (Option.bind (f_X11_sheetAt N ρ I J p3) fun v2 => (ocase v1 (some (I, (-2 : Int32))) (fun a3 => (ocase v2 (some (I, (-2 : Int32))) (fun a4 => (if ρ.2.1 a3 = (0, 7) then (Option.bind (f_X7_isMissing N ρ I J a3) fun v6 => (if (v6 = (0 : Int32)) then (if ρ.2.1 a4 = (0, 7) then (Option.bind (f_X7_isMissing N ρ I J a4) fun v8 => (if (v8 = (0 : Int32)) then (if ((I a3 0) = (I a4 0)) then (Option.bind (f_X7_hasRoom N ρ I J a3 p2 p5) fun v9 => (if (v9 = (0 : Int32)) then some (I, (-12 : Int32)) else (Option.bind (f_X7_hasRoom N ρ I J a4 p4 p5) fun v10 => (if (v10 = (0 : Int32)) then some (I, (-12 : Int32)) else (Option.bind (ρ.1 a3 2) fun a11 => (Option.bind (ρ.1 a4 2) fun a12 => (if ρ.2.1 a11 = (1, (ρ.2.1 a11).2) then (if ρ.2.1 a12 = (1, (ρ.2.1 a12).2) then (if ¬ p2 < 0 then (if ¬ p4 < 0 then (if ¬ p5 < 0 then (if tn p2 + tn p5 ≤ (ρ.2.1 a11).2 then (if tn p4 + tn p5 ≤ (ρ.2.1 a12).2 then some ((up I a12 (cpy (I a11) (I a12) (tn p2) (tn p4) (tn p5))), p5) else none) else none) else none) else none) else none) else none) else none))))))) else some (I, (-13 : Int32))) else some (I, (-11 : Int32)))) else none) else some (I, (-11 : Int32)))) else none)))))))
theorem c_X11_copy {G : Gd} {d N : Nat} {K : Ah → Option Value → Prop} {ρ : Rh} {I : Nat → Nat → Int32} {J : Nat → Nat → Int64} {p1 : Int32} {p2 : Int32} {p3 : Int32} {p4 : Int32} {p5 : Int32} {o : (Nat → Nat → Int32) × Int32} (hs : Sh ρ) (hf : f_X11_copy N ρ I J p1 p2 p3 p4 p5 = some o) (hK : K (o.1, J, ρ) (some (.int o.2))) : AM G (d + 1) 0 0 mX11_copy [.ref 32, .int p1, .int p2, .int p3, .int p4, .int p5] (I, J, ρ) K := by
  unfold f_X11_copy at hf
  refine AM.intro okX11_copy.2.2.2.1 (Nat.le_of_ble_eq_true rfl) [some (.ref 32), some (.int p1), some (.int p2), some (.int p3), some (.int p4), some (.int p5), none, none] rfl ?_
  refine AW.aload_n dX11_copy_0 rfl ?_
  refine AW.iload_n dX11_copy_1 rfl ?_
  obtain ⟨v1, gv1, hf⟩ := ob_split hf
  refine TW.invv (as := [.int p1]) (rest := []) viX11_116_11 hs.k32 dX11_copy_2 rfl rfl (Nat.le_of_ble_eq_true rfl) (c_X11_sheetAt hs gv1 ?_)
  show AW G mX11_copy (d + 1) 0 0 K 5 [some (.ref 32), some (.int p1), some (.int p2), some (.int p3), some (.int p4), some (.int p5), none, none] [va_rf v1] (I, J, ρ)
  refine AW.astoreq (ls' := [some (.ref 32), some (.int p1), some (.int p2), some (.int p3), some (.int p4), some (.int p5), some (va_rf v1), none]) dX11_copy_5 (Nat.le_of_ble_eq_true rfl) rfl ?_
  refine AW.aload_n dX11_copy_7 rfl ?_
  refine AW.iload_n dX11_copy_8 rfl ?_
  obtain ⟨v2, gv2, hf⟩ := ob_split hf
  refine TW.invv (as := [.int p3]) (rest := []) viX11_116_11 hs.k32 dX11_copy_9 rfl rfl (Nat.le_of_ble_eq_true rfl) (c_X11_sheetAt hs gv2 ?_)
  show AW G mX11_copy (d + 1) 0 0 K 12 [some (.ref 32), some (.int p1), some (.int p2), some (.int p3), some (.int p4), some (.int p5), some (va_rf v1), none] [va_rf v2] (I, J, ρ)
  refine AW.astoreq (ls' := [some (.ref 32), some (.int p1), some (.int p2), some (.int p3), some (.int p4), some (.int p5), some (va_rf v1), some (va_rf v2)]) dX11_copy_12 (Nat.le_of_ble_eq_true rfl) (by generalize v1 = zo; cases zo <;> rfl) ?_
  refine AW.aloadq dX11_copy_14 rfl ?_
  refine AW.ifnull (tgt := 24) dX11_copy_16 (by decide) (fun hc => ?_) (fun a3 hc => ?_)
  · have hf := ocase_n hc hf
    try rw [hc]
    show AW G mX11_copy (d + 1) 0 0 K 24 [some (.ref 32), some (.int p1), some (.int p2), some (.int p3), some (.int p4), some (.int p5), some (.null), some (va_rf v2)] [] (I, J, ρ)
    refine AW.bipush (v := (-2 : Int32)) dX11_copy_24 (by decide) ?_
    obtain rfl := Option.some.inj hf
    exact AW.iret (st := []) dX11_copy_26 rfl hK
  · have hf := ocase_s hc hf
    try rw [hc]
    show AW G mX11_copy (d + 1) 0 0 K 19 [some (.ref 32), some (.int p1), some (.int p2), some (.int p3), some (.int p4), some (.int p5), some (.ref a3), some (va_rf v2)] [] (I, J, ρ)
    refine AW.aloadq dX11_copy_19 rfl ?_
    refine AW.ifnonnull (tgt := 27) dX11_copy_21 (by decide) (fun a4 hc => ?_) (fun hc => ?_)
    · have hf := ocase_s hc hf
      try rw [hc]
      show AW G mX11_copy (d + 1) 0 0 K 27 [some (.ref 32), some (.int p1), some (.int p2), some (.int p3), some (.int p4), some (.int p5), some (.ref a3), some (.ref a4)] [] (I, J, ρ)
      refine AW.aload dX11_copy_27 rfl ?_
      obtain ⟨h5, hf⟩ := gd_split hf
      obtain ⟨v6, gv6, hf⟩ := ob_split hf
      refine TW.invv (as := []) (rest := []) viX11_120_7 h5 dX11_copy_29 rfl rfl (Nat.le_of_ble_eq_true rfl) (c_X7_isMissing hs gv6 ?_)
      show AW G mX11_copy (d + 1) 0 0 K 32 [some (.ref 32), some (.int p1), some (.int p2), some (.int p3), some (.int p4), some (.int p5), some (.ref a3), some (.ref a4)] [.int v6] (I, J, ρ)
      refine AW.if_ne (tgt := 43) dX11_copy_32 (by decide) (fun hc => ?_) (fun hc => ?_)
      · have hf := (if_neg hc).symm.trans hf
        refine AW.bipush (v := (-11 : Int32)) dX11_copy_43 (by decide) ?_
        obtain rfl := Option.some.inj hf
        exact AW.iret (st := []) dX11_copy_45 rfl hK
      · have hf := (if_pos hc).symm.trans hf
        refine AW.aload dX11_copy_35 rfl ?_
        obtain ⟨h7, hf⟩ := gd_split hf
        obtain ⟨v8, gv8, hf⟩ := ob_split hf
        refine TW.invv (as := []) (rest := []) viX11_120_7 h7 dX11_copy_37 rfl rfl (Nat.le_of_ble_eq_true rfl) (c_X7_isMissing hs gv8 ?_)
        show AW G mX11_copy (d + 1) 0 0 K 40 [some (.ref 32), some (.int p1), some (.int p2), some (.int p3), some (.int p4), some (.int p5), some (.ref a3), some (.ref a4)] [.int v8] (I, J, ρ)
        refine AW.if_eq (tgt := 46) dX11_copy_40 (by decide) (fun hc => ?_) (fun hc => ?_)
        · have hf := (if_pos hc).symm.trans hf
          refine AW.aload dX11_copy_46 rfl ?_
          refine TW.getI (x := (I a3 0)) fX11_251_7 h5 rfl dX11_copy_48 ?_
          refine AW.aload dX11_copy_51 rfl ?_
          refine TW.getI (x := (I a4 0)) fX11_251_7 h7 rfl dX11_copy_53 ?_
          refine AW.icmp_eq (tgt := 62) dX11_copy_56 (by decide) (fun hc => ?_) (fun hc => ?_)
          · have hf := (if_pos hc).symm.trans hf
            refine AW.aload dX11_copy_62 rfl ?_
            refine AW.iload_n dX11_copy_64 rfl ?_
            refine AW.iload dX11_copy_65 rfl ?_
            obtain ⟨v9, gv9, hf⟩ := ob_split hf
            refine TW.invv (as := [.int p2, .int p5]) (rest := []) viX11_254_7 h5 dX11_copy_67 rfl rfl (Nat.le_of_ble_eq_true rfl) (c_X7_hasRoom hs gv9 ?_)
            show AW G mX11_copy (d + 1) 0 0 K 70 [some (.ref 32), some (.int p1), some (.int p2), some (.int p3), some (.int p4), some (.int p5), some (.ref a3), some (.ref a4)] [.int v9] (I, J, ρ)
            refine AW.if_eq (tgt := 85) dX11_copy_70 (by decide) (fun hc => ?_) (fun hc => ?_)
            · have hf := (if_pos hc).symm.trans hf
              refine AW.bipush (v := (-12 : Int32)) dX11_copy_85 (by decide) ?_
              obtain rfl := Option.some.inj hf
              exact AW.iret (st := []) dX11_copy_87 rfl hK
            · have hf := (if_neg hc).symm.trans hf
              refine AW.aload dX11_copy_73 rfl ?_
              refine AW.iload dX11_copy_75 rfl ?_
              refine AW.iload dX11_copy_77 rfl ?_
              obtain ⟨v10, gv10, hf⟩ := ob_split hf
              refine TW.invv (as := [.int p4, .int p5]) (rest := []) viX11_254_7 h7 dX11_copy_79 rfl rfl (Nat.le_of_ble_eq_true rfl) (c_X7_hasRoom hs gv10 ?_)
              show AW G mX11_copy (d + 1) 0 0 K 82 [some (.ref 32), some (.int p1), some (.int p2), some (.int p3), some (.int p4), some (.int p5), some (.ref a3), some (.ref a4)] [.int v10] (I, J, ρ)
              refine AW.if_ne (tgt := 88) dX11_copy_82 (by decide) (fun hc => ?_) (fun hc => ?_)
              · have hf := (if_neg hc).symm.trans hf
                refine AW.aload dX11_copy_88 rfl ?_
                obtain ⟨a11, ga11, hf⟩ := ob_split hf
                refine TW.getR (v := .ref a11) fX11_232_7 h5 (rf_some ga11) dX11_copy_90 ?_
                refine AW.iload_n dX11_copy_93 rfl ?_
                refine AW.aload dX11_copy_94 rfl ?_
                obtain ⟨a12, ga12, hf⟩ := ob_split hf
                refine TW.getR (v := .ref a12) fX11_232_7 h7 (rf_some ga12) dX11_copy_96 ?_
                refine AW.iload dX11_copy_99 rfl ?_
                refine AW.iload dX11_copy_101 rfl ?_
                obtain ⟨h13, hf⟩ := gd_split hf
                obtain ⟨h14, hf⟩ := gd_split hf
                obtain ⟨h15, hf⟩ := gd_split hf
                obtain ⟨h16, hf⟩ := gd_split hf
                obtain ⟨h17, hf⟩ := gd_split hf
                obtain ⟨h18, hf⟩ := gd_split hf
                obtain ⟨h19, hf⟩ := gd_split hf
                refine TW.copyI cpX11_257 h13 h14 h15 h16 h17 h18 h19 (Nat.le_of_ble_eq_true rfl) dX11_copy_103 ?_
                show AW G mX11_copy (d + 1) 0 0 K 106 [some (.ref 32), some (.int p1), some (.int p2), some (.int p3), some (.int p4), some (.int p5), some (.ref a3), some (.ref a4)] [] ((up I a12 (cpy (I a11) (I a12) (tn p2) (tn p4) (tn p5))), J, ρ)
                refine AW.iload dX11_copy_106 rfl ?_
                obtain rfl := Option.some.inj hf
                exact AW.iret (st := []) dX11_copy_108 rfl hK
              · have hf := (if_pos hc).symm.trans hf
                refine AW.bipush (v := (-12 : Int32)) dX11_copy_85 (by decide) ?_
                obtain rfl := Option.some.inj hf
                exact AW.iret (st := []) dX11_copy_87 rfl hK
          · have hf := (if_neg hc).symm.trans hf
            refine AW.bipush (v := (-13 : Int32)) dX11_copy_59 (by decide) ?_
            obtain rfl := Option.some.inj hf
            exact AW.iret (st := []) dX11_copy_61 rfl hK
        · have hf := (if_neg hc).symm.trans hf
          refine AW.bipush (v := (-11 : Int32)) dX11_copy_43 (by decide) ?_
          obtain rfl := Option.some.inj hf
          exact AW.iret (st := []) dX11_copy_45 rfl hK
    · have hf := ocase_n hc hf
      try rw [hc]
      show AW G mX11_copy (d + 1) 0 0 K 24 [some (.ref 32), some (.int p1), some (.int p2), some (.int p3), some (.int p4), some (.int p5), some (.ref a3), some (.null)] [] (I, J, ρ)
      refine AW.bipush (v := (-2 : Int32)) dX11_copy_24 (by decide) ?_
      obtain rfl := Option.some.inj hf
      exact AW.iret (st := []) dX11_copy_26 rfl hK
def f_X11_men_65 (N : Nat) (J : Nat → Nat → Int64) (ρ : Rh) (p3 : Int32) (p4 : Int32) (a6 : Nat) : Nat → (Nat → Nat → Int32) → Int32 → Int32 → Option (((Nat → Nat → Int32) × Int32) ⊕ ((Nat → Nat → Int32) × Int32))
  | 0, _, _, _ => none
  | n + 1, I5, i7, i8 => (if (p4 ≤ i8) then some (Sum.inr (I5, i7)) else (if ρ.2.1 a6 = (0, 7) then (Option.bind (f_X7_hasRoom N ρ I5 J a6 (p3 + ((2 : Int32) * i8)) (2 : Int32)) fun v10 => (if (v10 = (0 : Int32)) then some (Sum.inl (I5, (-12 : Int32))) else (Option.bind (ρ.1 a6 2) fun a11 => (if ρ.2.1 a11 = (1, (ρ.2.1 a11).2) then (if ¬ ((p3 + ((2 : Int32) * i8)) < 0 ∨ (ρ.2.1 a11).2 ≤ tn (p3 + ((2 : Int32) * i8))) then (Option.bind (ρ.1 a6 2) fun a14 => (if ρ.2.1 a14 = (1, (ρ.2.1 a14).2) then (if ¬ (((p3 + ((2 : Int32) * i8)) + (1 : Int32)) < 0 ∨ (ρ.2.1 a14).2 ≤ tn ((p3 + ((2 : Int32) * i8)) + (1 : Int32))) then (Option.bind (f_X11_man N ρ I5 J (I5 a11 (tn (p3 + ((2 : Int32) * i8)))) (I5 a14 (tn ((p3 + ((2 : Int32) * i8)) + (1 : Int32))))) fun v17 => (((if (v17.2 < (0 : Int32)) then some i7 else some (i7 + (1 : Int32))) : Option (Int32)).bind fun j18 => f_X11_men_65 N J ρ p3 p4 a6 n v17.1 j18 (i8 + (1 : Int32)))) else none) else none)) else none) else none)))) else none))
theorem l_X11_men_65 {G : Gd} {d N : Nat} {K : Ah → Option Value → Prop} {J : Nat → Nat → Int64} {ρ : Rh} {p3 : Int32} {p4 : Int32} {a6 : Nat} (hs : Sh ρ) {o : ((Nat → Nat → Int32) × Int32) ⊕ ((Nat → Nat → Int32) × Int32)} : ∀ (n : Nat) (I5 : Nat → Nat → Int32) (i7 : Int32) (i8 : Int32), f_X11_men_65 N J ρ p3 p4 a6 n I5 i7 i8 = some o → scase o (fun r => K (r.1, J, ρ) (some (.int r.2))) (fun o => AW G mX11_men (d + 2) 0 0 K 128 [none, none, none, none, none, none, some (.int o.2), none, none] [] (o.1, J, ρ)) → AW G mX11_men (d + 2) 0 0 K 65 [some (.ref 32), none, none, some (.int p3), some (.int p4), some (.ref a6), some (.int i7), some (.int i8), none] [] (I5, J, ρ) := by
  intro n
  induction n with
  | zero => intro I5 i7 i8 hf hE; rw [f_X11_men_65.eq_1] at hf; cases hf
  | succ n ih =>
    intro I5 i7 i8 hf hE
    rw [f_X11_men_65.eq_2] at hf
    refine AW.iload dX11_men_65 rfl ?_
    refine AW.iload dX11_men_67 rfl ?_
    refine AW.icmp_ge (tgt := 128) dX11_men_69 (by decide) (fun hc => ?_) (fun hc => ?_)
    · have hf := (if_pos hc).symm.trans hf
      obtain rfl := Option.some.inj hf
      exact AW.weak _ (by exact (And.intro rfl trivial)) hE
    · have hf := (if_neg hc).symm.trans hf
      refine AW.iload_n dX11_men_72 rfl ?_
      refine AW.iconst (v := (2 : Int32)) dX11_men_73 (by decide) ?_
      refine AW.iload dX11_men_74 rfl ?_
      refine AW.imul dX11_men_76 ?_
      refine AW.iadd dX11_men_77 ?_
      refine AW.istore (ls' := [some (.ref 32), none, none, some (.int p3), some (.int p4), some (.ref a6), some (.int i7), some (.int i8), some (.int (p3 + ((2 : Int32) * i8)))]) dX11_men_78 (Nat.le_of_ble_eq_true rfl) rfl ?_
      refine AW.aload dX11_men_80 rfl ?_
      refine AW.iload dX11_men_82 rfl ?_
      refine AW.iconst (v := (2 : Int32)) dX11_men_84 (by decide) ?_
      obtain ⟨h9, hf⟩ := gd_split hf
      obtain ⟨v10, gv10, hf⟩ := ob_split hf
      refine TW.invv (as := [.int (p3 + ((2 : Int32) * i8)), .int (2 : Int32)]) (rest := []) viX11_254_7 h9 dX11_men_85 rfl rfl (Nat.le_of_ble_eq_true rfl) (c_X7_hasRoom hs gv10 ?_)
      show AW G mX11_men (d + 2) 0 0 K 88 [some (.ref 32), none, none, some (.int p3), some (.int p4), some (.ref a6), some (.int i7), some (.int i8), some (.int (p3 + ((2 : Int32) * i8)))] [.int v10] (I5, J, ρ)
      refine AW.if_ne (tgt := 94) dX11_men_88 (by decide) (fun hc => ?_) (fun hc => ?_)
      · have hf := (if_neg hc).symm.trans hf
        refine AW.aload_n dX11_men_94 rfl ?_
        refine AW.aload dX11_men_95 rfl ?_
        obtain ⟨a11, ga11, hf⟩ := ob_split hf
        refine TW.getR (v := .ref a11) fX11_232_7 h9 (rf_some ga11) dX11_men_97 ?_
        refine AW.iload dX11_men_100 rfl ?_
        obtain ⟨h12, hf⟩ := gd_split hf
        obtain ⟨h13, hf⟩ := gd_split hf
        refine TW.iald (x := (I5 a11 (tn (p3 + ((2 : Int32) * i8))))) h12 h13 rfl dX11_men_102 ?_
        refine AW.aload dX11_men_103 rfl ?_
        obtain ⟨a14, ga14, hf⟩ := ob_split hf
        refine TW.getR (v := .ref a14) fX11_232_7 h9 (rf_some ga14) dX11_men_105 ?_
        refine AW.iload dX11_men_108 rfl ?_
        refine AW.iconst (v := (1 : Int32)) dX11_men_110 (by decide) ?_
        refine AW.iadd dX11_men_111 ?_
        obtain ⟨h15, hf⟩ := gd_split hf
        obtain ⟨h16, hf⟩ := gd_split hf
        refine TW.iald (x := (I5 a14 (tn ((p3 + ((2 : Int32) * i8)) + (1 : Int32))))) h15 h16 rfl dX11_men_112 ?_
        obtain ⟨v17, gv17, hf⟩ := ob_split hf
        refine TW.invv (as := [.int (I5 a11 (tn (p3 + ((2 : Int32) * i8)))), .int (I5 a14 (tn ((p3 + ((2 : Int32) * i8)) + (1 : Int32))))]) (rest := []) viX11_263_11 hs.k32 dX11_men_113 rfl rfl (Nat.le_of_ble_eq_true rfl) (c_X11_man hs gv17 ?_)
        show AW G mX11_men (d + 2) 0 0 K 116 [some (.ref 32), none, none, some (.int p3), some (.int p4), some (.ref a6), some (.int i7), some (.int i8), some (.int (p3 + ((2 : Int32) * i8)))] [.int v17.2] (v17.1, J, ρ)
        obtain ⟨j18, gj18, hf⟩ := ob_split hf
        have Kj18 : AW G mX11_men (d + 2) 0 0 K 122 [some (.ref 32), none, none, some (.int p3), some (.int p4), some (.ref a6), some (.int j18), some (.int i8), none] [] (v17.1, J, ρ) := by
          refine AW.iinc (v := (i8 + (1 : Int32))) (ls' := [some (.ref 32), none, none, some (.int p3), some (.int p4), some (.ref a6), some (.int j18), some (.int (i8 + (1 : Int32))), none]) dX11_men_122 rfl rfl (Nat.le_of_ble_eq_true rfl) rfl ?_
          refine AW.goto (tgt := 65) dX11_men_125 (by decide) ?_
          exact AW.weak _ (by exact (And.intro rfl (And.intro rfl (And.intro rfl (And.intro rfl (And.intro rfl (And.intro rfl trivial))))))) (ih v17.1 j18 (i8 + (1 : Int32)) hf hE)
        clear hf; have hf := gj18; clear gj18
        refine AW.if_lt (tgt := 122) dX11_men_116 (by decide) (fun hc => ?_) (fun hc => ?_)
        · have hf := (if_pos hc).symm.trans hf
          obtain rfl := Option.some.inj hf
          exact AW.weak _ (by exact (And.intro rfl (And.intro rfl (And.intro rfl (And.intro rfl (And.intro rfl (And.intro rfl trivial))))))) Kj18
        · have hf := (if_neg hc).symm.trans hf
          refine AW.iinc (v := (i7 + (1 : Int32))) (ls' := [some (.ref 32), none, none, some (.int p3), some (.int p4), some (.ref a6), some (.int (i7 + (1 : Int32))), some (.int i8), some (.int (p3 + ((2 : Int32) * i8)))]) dX11_men_119 rfl rfl (Nat.le_of_ble_eq_true rfl) rfl ?_
          obtain rfl := Option.some.inj hf
          exact AW.weak _ (by exact (And.intro rfl (And.intro rfl (And.intro rfl (And.intro rfl (And.intro rfl (And.intro rfl trivial))))))) Kj18
      · have hf := (if_pos hc).symm.trans hf
        refine AW.bipush (v := (-12 : Int32)) dX11_men_91 (by decide) ?_
        obtain rfl := Option.some.inj hf
        exact AW.iret (st := []) dX11_men_93 rfl hE
def f_X11_men (N : Nat) (ρ : Rh) (I : Nat → Nat → Int32) (J : Nat → Nat → Int64) (p1 : Int32) (p2 : Int32) (p3 : Int32) (p4 : Int32) : Option ((Nat → Nat → Int32) × Int32) := (Option.bind (f_X11_sheetAt N ρ I J p1) fun v1 => (ocase v1 (some (I, (-2 : Int32))) (fun a2 => (if (p2 < (0 : Int32)) then some (I, (-2 : Int32)) else (if ((2 : Int32) < p2) then some (I, (-2 : Int32)) else (if (p4 < (0 : Int32)) then some (I, (-2 : Int32)) else (if (p4 ≤ (8 : Int32)) then (if ρ.2.1 a2 = (0, 7) then (Option.bind (f_X7_isMissing N ρ I J a2) fun v4 => (if (v4 = (0 : Int32)) then (if ((I a2 0) = p2) then ((f_X11_men_65 N J ρ p3 p4 a2 N I (0 : Int32) (0 : Int32)).bind fun j19 => scase j19 (fun r => some r) (fun j19 => some (j19.1, j19.2))) else some (I, (-13 : Int32))) else some (I, (-11 : Int32)))) else none) else some (I, (-2 : Int32)))))))))
theorem c_X11_men {G : Gd} {d N : Nat} {K : Ah → Option Value → Prop} {ρ : Rh} {I : Nat → Nat → Int32} {J : Nat → Nat → Int64} {p1 : Int32} {p2 : Int32} {p3 : Int32} {p4 : Int32} {o : (Nat → Nat → Int32) × Int32} (hs : Sh ρ) (hf : f_X11_men N ρ I J p1 p2 p3 p4 = some o) (hK : K (o.1, J, ρ) (some (.int o.2))) : AM G (d + 2) 0 0 mX11_men [.ref 32, .int p1, .int p2, .int p3, .int p4] (I, J, ρ) K := by
  unfold f_X11_men at hf
  refine AM.intro okX11_men.2.2.2.1 (Nat.le_of_ble_eq_true rfl) [some (.ref 32), some (.int p1), some (.int p2), some (.int p3), some (.int p4), none, none, none, none] rfl ?_
  refine AW.aload_n dX11_men_0 rfl ?_
  refine AW.iload_n dX11_men_1 rfl ?_
  obtain ⟨v1, gv1, hf⟩ := ob_split hf
  refine TW.invv (as := [.int p1]) (rest := []) viX11_116_11 hs.k32 dX11_men_2 rfl rfl (Nat.le_of_ble_eq_true rfl) (c_X11_sheetAt hs gv1 ?_)
  show AW G mX11_men (d + 2) 0 0 K 5 [some (.ref 32), some (.int p1), some (.int p2), some (.int p3), some (.int p4), none, none, none, none] [va_rf v1] (I, J, ρ)
  refine AW.astoreq (ls' := [some (.ref 32), some (.int p1), some (.int p2), some (.int p3), some (.int p4), some (va_rf v1), none, none, none]) dX11_men_5 (Nat.le_of_ble_eq_true rfl) rfl ?_
  refine AW.aloadq dX11_men_7 rfl ?_
  refine AW.ifnull (tgt := 33) dX11_men_9 (by decide) (fun hc => ?_) (fun a2 hc => ?_)
  · have hf := ocase_n hc hf
    try rw [hc]
    show AW G mX11_men (d + 2) 0 0 K 33 [some (.ref 32), some (.int p1), some (.int p2), some (.int p3), some (.int p4), some (.null), none, none, none] [] (I, J, ρ)
    refine AW.bipush (v := (-2 : Int32)) dX11_men_33 (by decide) ?_
    obtain rfl := Option.some.inj hf
    exact AW.iret (st := []) dX11_men_35 rfl hK
  · have hf := ocase_s hc hf
    try rw [hc]
    show AW G mX11_men (d + 2) 0 0 K 12 [some (.ref 32), some (.int p1), some (.int p2), some (.int p3), some (.int p4), some (.ref a2), none, none, none] [] (I, J, ρ)
    refine AW.iload_n dX11_men_12 rfl ?_
    refine AW.if_lt (tgt := 33) dX11_men_13 (by decide) (fun hc => ?_) (fun hc => ?_)
    · have hf := (if_pos hc).symm.trans hf
      refine AW.bipush (v := (-2 : Int32)) dX11_men_33 (by decide) ?_
      obtain rfl := Option.some.inj hf
      exact AW.iret (st := []) dX11_men_35 rfl hK
    · have hf := (if_neg hc).symm.trans hf
      refine AW.iload_n dX11_men_16 rfl ?_
      refine AW.iconst (v := (2 : Int32)) dX11_men_17 (by decide) ?_
      refine AW.icmp_gt (tgt := 33) dX11_men_18 (by decide) (fun hc => ?_) (fun hc => ?_)
      · have hf := (if_pos hc).symm.trans hf
        refine AW.bipush (v := (-2 : Int32)) dX11_men_33 (by decide) ?_
        obtain rfl := Option.some.inj hf
        exact AW.iret (st := []) dX11_men_35 rfl hK
      · have hf := (if_neg hc).symm.trans hf
        refine AW.iload dX11_men_21 rfl ?_
        refine AW.if_lt (tgt := 33) dX11_men_23 (by decide) (fun hc => ?_) (fun hc => ?_)
        · have hf := (if_pos hc).symm.trans hf
          refine AW.bipush (v := (-2 : Int32)) dX11_men_33 (by decide) ?_
          obtain rfl := Option.some.inj hf
          exact AW.iret (st := []) dX11_men_35 rfl hK
        · have hf := (if_neg hc).symm.trans hf
          refine AW.iload dX11_men_26 rfl ?_
          refine AW.bipush (v := (8 : Int32)) dX11_men_28 (by decide) ?_
          refine AW.icmp_le (tgt := 36) dX11_men_30 (by decide) (fun hc => ?_) (fun hc => ?_)
          · have hf := (if_pos hc).symm.trans hf
            refine AW.aload dX11_men_36 rfl ?_
            obtain ⟨h3, hf⟩ := gd_split hf
            obtain ⟨v4, gv4, hf⟩ := ob_split hf
            refine TW.invv (as := []) (rest := []) viX11_120_7 h3 dX11_men_38 rfl rfl (Nat.le_of_ble_eq_true rfl) (c_X7_isMissing hs gv4 ?_)
            show AW G mX11_men (d + 2) 0 0 K 41 [some (.ref 32), some (.int p1), some (.int p2), some (.int p3), some (.int p4), some (.ref a2), none, none, none] [.int v4] (I, J, ρ)
            refine AW.if_eq (tgt := 47) dX11_men_41 (by decide) (fun hc => ?_) (fun hc => ?_)
            · have hf := (if_pos hc).symm.trans hf
              refine AW.aload dX11_men_47 rfl ?_
              refine TW.getI (x := (I a2 0)) fX11_251_7 h3 rfl dX11_men_49 ?_
              refine AW.iload_n dX11_men_52 rfl ?_
              refine AW.icmp_eq (tgt := 59) dX11_men_53 (by decide) (fun hc => ?_) (fun hc => ?_)
              · have hf := (if_pos hc).symm.trans hf
                refine AW.iconst (v := (0 : Int32)) dX11_men_59 (by decide) ?_
                refine AW.istore (ls' := [some (.ref 32), some (.int p1), some (.int p2), some (.int p3), some (.int p4), some (.ref a2), some (.int (0 : Int32)), none, none]) dX11_men_60 (Nat.le_of_ble_eq_true rfl) rfl ?_
                refine AW.iconst (v := (0 : Int32)) dX11_men_62 (by decide) ?_
                refine AW.istore (ls' := [some (.ref 32), some (.int p1), some (.int p2), some (.int p3), some (.int p4), some (.ref a2), some (.int (0 : Int32)), some (.int (0 : Int32)), none]) dX11_men_63 (Nat.le_of_ble_eq_true rfl) rfl ?_
                obtain ⟨j19, gj19, hf⟩ := ob_split hf
                refine AW.weak _ (by exact (And.intro rfl (And.intro rfl (And.intro rfl (And.intro rfl (And.intro rfl (And.intro rfl trivial))))))) (l_X11_men_65 hs N I (0 : Int32) (0 : Int32) gj19 ?_)
                rcases j19 with r | j19
                · obtain rfl := Option.some.inj hf; exact hK
                · show AW G mX11_men (d + 2) 0 0 K 128 [none, none, none, none, none, none, some (.int j19.2), none, none] [] (j19.1, J, ρ)
                  refine AW.iload dX11_men_128 rfl ?_
                  obtain rfl := Option.some.inj hf
                  exact AW.iret (st := []) dX11_men_130 rfl hK
              · have hf := (if_neg hc).symm.trans hf
                refine AW.bipush (v := (-13 : Int32)) dX11_men_56 (by decide) ?_
                obtain rfl := Option.some.inj hf
                exact AW.iret (st := []) dX11_men_58 rfl hK
            · have hf := (if_neg hc).symm.trans hf
              refine AW.bipush (v := (-11 : Int32)) dX11_men_44 (by decide) ?_
              obtain rfl := Option.some.inj hf
              exact AW.iret (st := []) dX11_men_46 rfl hK
          · have hf := (if_neg hc).symm.trans hf
            refine AW.bipush (v := (-2 : Int32)) dX11_men_33 (by decide) ?_
            obtain rfl := Option.some.inj hf
            exact AW.iret (st := []) dX11_men_35 rfl hK
