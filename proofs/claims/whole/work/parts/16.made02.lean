/-! ===== methods 16.made 2 ===== -/
def f_X11_rule (N : Nat) (ρ : Rh) (I : Nat → Nat → Int32) (J : Nat → Nat → Int64) (p1 : Int32) (p2 : Int32) (p3 : Int32) : Option ((Nat → Nat → Int32) × (Nat → Nat → Int64) × (Rh) × Int32) := (if (p1 < (0 : Int32)) then some (I, J, ρ, (-2 : Int32)) else (if ((5 : Int32) < p1) then some (I, J, ρ, (-2 : Int32)) else (if (p2 < (0 : Int32)) then some (I, J, ρ, (-2 : Int32)) else (if (p2 ≤ (99 : Int32)) then (((if (p1 = (4 : Int32)) then (Option.bind (f_X11_sheetAt N ρ I J p3) fun v1 => (ocase v1 (some (Sum.inl (I, J, ρ, (-2 : Int32)))) (fun a2 => (if ρ.2.1 a2 = (0, 7) then (Option.bind (f_X7_isMissing N ρ I J a2) fun v4 => (if (v4 = (0 : Int32)) then (if ((I a2 1) = (I 42 0)) then (Option.bind (f_X7_holdsOnly N ρ I J a2 (0 : Int32) (50 : Int32)) fun v5 => (if (v5 = (0 : Int32)) then some (Sum.inl (I, J, ρ, (-2 : Int32))) else some (Sum.inr (some a2)))) else some (Sum.inl (I, J, ρ, (-2 : Int32)))) else some (Sum.inl (I, J, ρ, (-11 : Int32))))) else none)))) else some (Sum.inr none)) : Option (((Nat → Nat → Int32) × (Nat → Nat → Int64) × (Rh) × Int32) ⊕ (Option Nat))).bind fun j6 => scase j6 (fun r => some r) (fun j6 => (if ((I 32 3) < (0 : Int32)) then some (I, J, ρ, (-4 : Int32)) else (if ((I 32 3) < (8 : Int32)) then (Option.bind (f_X11_ruleOf N ρ I J p1 p2 j6) fun v7 => (if ¬ ((I 32 3) < 0 ∨ 8 ≤ tn (I 32 3)) then (Option.bind v7.2.2.2 fun a9 => (if isR (v7.2.2.1.2.1 a9) then some ((u2 v7.1 32 3 ((v7.1 32 3) + (1 : Int32))), v7.2.1, (u2 v7.2.2.1.1 33 (tn (I 32 3)) (some a9), v7.2.2.1.2), (((v7.1 32 3) + (1 : Int32)) - (1 : Int32))) else none)) else none)) else some (I, J, ρ, (-4 : Int32)))))) else some (I, J, ρ, (-2 : Int32))))))
theorem c_X11_rule {G : Gd} {d N : Nat} {K : Ah → Option Value → Prop} {ρ : Rh} {I : Nat → Nat → Int32} {J : Nat → Nat → Int64} {p1 : Int32} {p2 : Int32} {p3 : Int32} {o : (Nat → Nat → Int32) × (Nat → Nat → Int64) × (Rh) × Int32} (hs : Sh ρ) (hf : f_X11_rule N ρ I J p1 p2 p3 = some o) (hK : (Sh o.2.2.1 → K (o.1, o.2.1, o.2.2.1) (some (.int o.2.2.2)))) : AM G (d + 5) 2 11 mX11_rule [.ref 32, .int p1, .int p2, .int p3] (I, J, ρ) K := by
  unfold f_X11_rule at hf
  refine AM.intro okX11_rule.2.2.2.1 (Nat.le_of_ble_eq_true rfl) [some (.ref 32), some (.int p1), some (.int p2), some (.int p3), none] rfl ?_
  refine AW.iload_n dX11_rule_0 rfl ?_
  refine AW.if_lt (tgt := 19) dX11_rule_1 (by decide) (fun hc => ?_) (fun hc => ?_)
  · have hf := (if_pos hc).symm.trans hf
    refine AW.bipush (v := (-2 : Int32)) dX11_rule_19 (by decide) ?_
    obtain rfl := Option.some.inj hf
    exact AW.iret (st := []) dX11_rule_21 rfl ((show Sh ρ → _ from hK) hs)
  · have hf := (if_neg hc).symm.trans hf
    refine AW.iload_n dX11_rule_4 rfl ?_
    refine AW.iconst (v := (5 : Int32)) dX11_rule_5 (by decide) ?_
    refine AW.icmp_gt (tgt := 19) dX11_rule_6 (by decide) (fun hc => ?_) (fun hc => ?_)
    · have hf := (if_pos hc).symm.trans hf
      refine AW.bipush (v := (-2 : Int32)) dX11_rule_19 (by decide) ?_
      obtain rfl := Option.some.inj hf
      exact AW.iret (st := []) dX11_rule_21 rfl ((show Sh ρ → _ from hK) hs)
    · have hf := (if_neg hc).symm.trans hf
      refine AW.iload_n dX11_rule_9 rfl ?_
      refine AW.if_lt (tgt := 19) dX11_rule_10 (by decide) (fun hc => ?_) (fun hc => ?_)
      · have hf := (if_pos hc).symm.trans hf
        refine AW.bipush (v := (-2 : Int32)) dX11_rule_19 (by decide) ?_
        obtain rfl := Option.some.inj hf
        exact AW.iret (st := []) dX11_rule_21 rfl ((show Sh ρ → _ from hK) hs)
      · have hf := (if_neg hc).symm.trans hf
        refine AW.iload_n dX11_rule_13 rfl ?_
        refine AW.bipush (v := (99 : Int32)) dX11_rule_14 (by decide) ?_
        refine AW.icmp_le (tgt := 22) dX11_rule_16 (by decide) (fun hc => ?_) (fun hc => ?_)
        · have hf := (if_pos hc).symm.trans hf
          refine AW.null dX11_rule_22 ?_
          refine AW.astoreN (ls' := [some (.ref 32), some (.int p1), some (.int p2), some (.int p3), some (.null)]) dX11_rule_23 (Nat.le_of_ble_eq_true rfl) rfl ?_
          refine AW.iload_n dX11_rule_25 rfl ?_
          refine AW.iconst (v := (4 : Int32)) dX11_rule_26 (by decide) ?_
          obtain ⟨j6, gj6, hf⟩ := ob_split hf
          have Kj6 : scase j6 (fun r => (Sh r.2.2.1 → K (r.1, r.2.1, r.2.2.1) (some (.int r.2.2.2)))) (fun j6 => AW G mX11_rule (d + 5) 2 11 K 85 [some (.ref 32), some (.int p1), some (.int p2), none, some (va_rf j6)] [] (I, J, ρ)) := by
            rcases j6 with r | j6
            · obtain rfl := Option.some.inj hf; exact hK
            · show AW G mX11_rule (d + 5) 2 11 K 85 [some (.ref 32), some (.int p1), some (.int p2), none, some (va_rf j6)] [] (I, J, ρ)
              refine AW.aload_n dX11_rule_85 rfl ?_
              refine TW.getI (x := (I 32 3)) fX11_103_11 hs.k32 rfl dX11_rule_86 ?_
              refine AW.if_lt (tgt := 101) dX11_rule_89 (by decide) (fun hc => ?_) (fun hc => ?_)
              · have hf := (if_pos hc).symm.trans hf
                refine AW.bipush (v := (-4 : Int32)) dX11_rule_101 (by decide) ?_
                obtain rfl := Option.some.inj hf
                exact AW.iret (st := []) dX11_rule_103 rfl ((show Sh ρ → _ from hK) hs)
              · have hf := (if_neg hc).symm.trans hf
                refine AW.aload_n dX11_rule_92 rfl ?_
                refine TW.getI (x := (I 32 3)) fX11_103_11 hs.k32 rfl dX11_rule_93 ?_
                refine AW.bipush (v := (8 : Int32)) dX11_rule_96 (by decide) ?_
                refine AW.icmp_lt (tgt := 104) dX11_rule_98 (by decide) (fun hc => ?_) (fun hc => ?_)
                · have hf := (if_pos hc).symm.trans hf
                  refine AW.aload_n dX11_rule_104 rfl ?_
                  refine TW.getR fX11_11_11 hs.k32 (rf_some hs.r32_2) dX11_rule_105 ?_
                  refine AW.aload_n dX11_rule_108 rfl ?_
                  refine TW.getI (x := (I 32 3)) fX11_103_11 hs.k32 rfl dX11_rule_109 ?_
                  refine AW.iload_n dX11_rule_112 rfl ?_
                  refine AW.iload_n dX11_rule_113 rfl ?_
                  refine AW.aloadq dX11_rule_114 rfl ?_
                  obtain ⟨v7, gv7, hf⟩ := ob_split hf
                  refine AW.invs (c1 := 2) (n1 := 11) (c := 0) (n := 0) (as := [.int p1, .int p2, va_rf j6]) (rest := [.int (I 32 3), .ref 33]) stX11_129 dX11_rule_116 rfl rfl (Nat.le_of_ble_eq_true rfl) (c_X11_ruleOf hs gv7 (fun hs => ?_))
                  show AW G mX11_rule (d + 5) 0 0 K 119 [some (.ref 32), some (.int p1), some (.int p2), none, some (va_rf j6)] [va_rf v7.2.2.2, .int (I 32 3), .ref 33] (v7.1, v7.2.1, v7.2.2.1)
                  obtain ⟨h8, hf⟩ := gd_split hf
                  obtain ⟨a9, ga9, hf⟩ := ob_split hf
                  refine AW.nmA ga9 ?_
                  obtain ⟨h10, hf⟩ := gd_split hf
                  refine TW.aastR hs.k33 h8 h10 dX11_rule_119 ?_
                  have hs := Sh.put hs 33 (tn (I 32 3)) (some a9) (fun q hq z => shR_33 q hq z.1) (by decide)
                  show AW G mX11_rule (d + 5) 0 0 K 120 [some (.ref 32), some (.int p1), some (.int p2), none, some (va_rf j6)] [] (v7.1, v7.2.1, (u2 v7.2.2.1.1 33 (tn (I 32 3)) (some a9), v7.2.2.1.2))
                  refine AW.aload_n dX11_rule_120 rfl ?_
                  refine AW.dup dX11_rule_121 rfl ?_
                  refine TW.getI (x := (v7.1 32 3)) fX11_103_11 hs.k32 rfl dX11_rule_122 ?_
                  refine AW.iconst (v := (1 : Int32)) dX11_rule_125 (by decide) ?_
                  refine AW.iadd dX11_rule_126 ?_
                  refine TW.putI fX11_103_11 hs.k32 (Or.inl rfl) dX11_rule_127 ?_
                  show AW G mX11_rule (d + 5) 0 0 K 130 [some (.ref 32), some (.int p1), some (.int p2), none, some (va_rf j6)] [] ((u2 v7.1 32 3 ((v7.1 32 3) + (1 : Int32))), v7.2.1, (u2 v7.2.2.1.1 33 (tn (I 32 3)) (some a9), v7.2.2.1.2))
                  refine AW.aload_n dX11_rule_130 rfl ?_
                  refine TW.getI (x := ((v7.1 32 3) + (1 : Int32))) fX11_103_11 hs.k32 u2_eq dX11_rule_131 ?_
                  refine AW.iconst (v := (1 : Int32)) dX11_rule_134 (by decide) ?_
                  refine AW.isub dX11_rule_135 ?_
                  obtain rfl := Option.some.inj hf
                  exact AW.iret (st := []) dX11_rule_136 rfl ((show Sh (u2 v7.2.2.1.1 33 (tn (I 32 3)) (some a9), v7.2.2.1.2) → _ from hK) hs)
                · have hf := (if_neg hc).symm.trans hf
                  refine AW.bipush (v := (-4 : Int32)) dX11_rule_101 (by decide) ?_
                  obtain rfl := Option.some.inj hf
                  exact AW.iret (st := []) dX11_rule_103 rfl ((show Sh ρ → _ from hK) hs)
          clear hf; have hf := gj6; clear gj6
          refine AW.icmp_ne (tgt := 85) dX11_rule_27 (by decide) (fun hc => ?_) (fun hc => ?_)
          · have hf := (if_neg hc).symm.trans hf
            obtain rfl := Option.some.inj hf
            exact AW.weak _ (by exact (And.intro rfl (And.intro rfl (And.intro rfl (And.intro rfl trivial))))) Kj6
          · have hf := (if_pos hc).symm.trans hf
            refine AW.aload_n dX11_rule_30 rfl ?_
            refine AW.iload_n dX11_rule_31 rfl ?_
            obtain ⟨v1, gv1, hf⟩ := ob_split hf
            refine TW.invv (as := [.int p3]) (rest := []) viX11_116_11 hs.k32 dX11_rule_32 rfl rfl (Nat.le_of_ble_eq_true rfl) (c_X11_sheetAt hs gv1 ?_)
            show AW G mX11_rule (d + 5) 2 11 K 35 [some (.ref 32), some (.int p1), some (.int p2), some (.int p3), some (.null)] [va_rf v1] (I, J, ρ)
            refine AW.astoreq (ls' := [some (.ref 32), some (.int p1), some (.int p2), some (.int p3), some (va_rf v1)]) dX11_rule_35 (Nat.le_of_ble_eq_true rfl) rfl ?_
            refine AW.aloadq dX11_rule_37 rfl ?_
            refine AW.ifnonnull (tgt := 45) dX11_rule_39 (by decide) (fun a2 hc => ?_) (fun hc => ?_)
            · have hf := ocase_s hc hf
              try rw [hc]
              show AW G mX11_rule (d + 5) 2 11 K 45 [some (.ref 32), some (.int p1), some (.int p2), some (.int p3), some (.ref a2)] [] (I, J, ρ)
              refine AW.aload dX11_rule_45 rfl ?_
              obtain ⟨h3, hf⟩ := gd_split hf
              obtain ⟨v4, gv4, hf⟩ := ob_split hf
              refine TW.invv (as := []) (rest := []) viX11_120_7 h3 dX11_rule_47 rfl rfl (Nat.le_of_ble_eq_true rfl) (c_X7_isMissing hs gv4 ?_)
              show AW G mX11_rule (d + 5) 2 11 K 50 [some (.ref 32), some (.int p1), some (.int p2), some (.int p3), some (.ref a2)] [.int v4] (I, J, ρ)
              refine AW.if_eq (tgt := 56) dX11_rule_50 (by decide) (fun hc => ?_) (fun hc => ?_)
              · have hf := (if_pos hc).symm.trans hf
                refine AW.aload dX11_rule_56 rfl ?_
                refine TW.getI (x := (I a2 1)) fX11_124_7 h3 rfl dX11_rule_58 ?_
                refine AW.aload_n dX11_rule_61 rfl ?_
                refine TW.getR fX11_50_11 hs.k32 (rf_some hs.r32_0) dX11_rule_62 ?_
                refine TW.getI (x := (I 42 0)) fX11_71_0 hs.k42 rfl dX11_rule_65 ?_
                refine AW.icmp_ne (tgt := 82) dX11_rule_68 (by decide) (fun hc => ?_) (fun hc => ?_)
                · have hf := (if_neg hc).symm.trans hf
                  refine AW.bipush (v := (-2 : Int32)) dX11_rule_82 (by decide) ?_
                  obtain rfl := Option.some.inj hf
                  exact AW.iret (st := []) dX11_rule_84 rfl ((show Sh ρ → _ from Kj6) hs)
                · have hf := (if_pos hc).symm.trans hf
                  refine AW.aload dX11_rule_71 rfl ?_
                  refine AW.iconst (v := (0 : Int32)) dX11_rule_73 (by decide) ?_
                  refine AW.bipush (v := (50 : Int32)) dX11_rule_74 (by decide) ?_
                  obtain ⟨v5, gv5, hf⟩ := ob_split hf
                  refine TW.invv (as := [.int (0 : Int32), .int (50 : Int32)]) (rest := []) viX11_125_7 h3 dX11_rule_76 rfl rfl (Nat.le_of_ble_eq_true rfl) (c_X7_holdsOnly hs gv5 ?_)
                  show AW G mX11_rule (d + 5) 2 11 K 79 [some (.ref 32), some (.int p1), some (.int p2), some (.int p3), some (.ref a2)] [.int v5] (I, J, ρ)
                  refine AW.if_ne (tgt := 85) dX11_rule_79 (by decide) (fun hc => ?_) (fun hc => ?_)
                  · have hf := (if_neg hc).symm.trans hf
                    obtain rfl := Option.some.inj hf
                    exact AW.weak _ (by exact (And.intro rfl (And.intro rfl (And.intro rfl (And.intro rfl trivial))))) Kj6
                  · have hf := (if_pos hc).symm.trans hf
                    refine AW.bipush (v := (-2 : Int32)) dX11_rule_82 (by decide) ?_
                    obtain rfl := Option.some.inj hf
                    exact AW.iret (st := []) dX11_rule_84 rfl ((show Sh ρ → _ from Kj6) hs)
              · have hf := (if_neg hc).symm.trans hf
                refine AW.bipush (v := (-11 : Int32)) dX11_rule_53 (by decide) ?_
                obtain rfl := Option.some.inj hf
                exact AW.iret (st := []) dX11_rule_55 rfl ((show Sh ρ → _ from Kj6) hs)
            · have hf := ocase_n hc hf
              try rw [hc]
              show AW G mX11_rule (d + 5) 2 11 K 42 [some (.ref 32), some (.int p1), some (.int p2), some (.int p3), some (.null)] [] (I, J, ρ)
              refine AW.bipush (v := (-2 : Int32)) dX11_rule_42 (by decide) ?_
              obtain rfl := Option.some.inj hf
              exact AW.iret (st := []) dX11_rule_44 rfl ((show Sh ρ → _ from Kj6) hs)
        · have hf := (if_neg hc).symm.trans hf
          refine AW.bipush (v := (-2 : Int32)) dX11_rule_19 (by decide) ?_
          obtain rfl := Option.some.inj hf
          exact AW.iret (st := []) dX11_rule_21 rfl ((show Sh ρ → _ from hK) hs)
def f_J7_copyOf_59c91 (N : Nat) (ρ : Rh) (I : Nat → Nat → Int32) (J : Nat → Nat → Int64) (p1 : Nat) (p2 : Int32) : Option ((Nat → Nat → Int32) × (Nat → Nat → Int64) × (Rh) × Nat) := (if ρ.2.1 p1 = (1, (ρ.2.1 p1).2) then (if (p2 = (Int32.ofNat (ρ.2.1 p1).2)) then none else (if ¬ p2 < 0 then (if (tn p2) ≤ 160 then (bnd (32 + ρ.2.2) fun a2 => (if (alρ ρ (1, (tn p2))).2.1 p1 = (1, ((alρ ρ (1, (tn p2))).2.1 p1).2) then (if ¬ (if p2 < (Int32.ofNat ((alρ ρ (1, (tn p2))).2.1 p1).2) then p2 else (Int32.ofNat ((alρ ρ (1, (tn p2))).2.1 p1).2)) < 0 then (if tn (0 : Int32) + tn (if p2 < (Int32.ofNat ((alρ ρ (1, (tn p2))).2.1 p1).2) then p2 else (Int32.ofNat ((alρ ρ (1, (tn p2))).2.1 p1).2)) ≤ ((alρ ρ (1, (tn p2))).2.1 p1).2 then (if tn (0 : Int32) + tn (if p2 < (Int32.ofNat ((alρ ρ (1, (tn p2))).2.1 p1).2) then p2 else (Int32.ofNat ((alρ ρ (1, (tn p2))).2.1 p1).2)) ≤ (tn p2) then some ((up (up I a2 (fun _ => 0)) a2 (cpy ((up I a2 (fun _ => 0)) p1) ((up I a2 (fun _ => 0)) a2) (tn (0 : Int32)) (tn (0 : Int32)) (tn (if p2 < (Int32.ofNat ((alρ ρ (1, (tn p2))).2.1 p1).2) then p2 else (Int32.ofNat ((alρ ρ (1, (tn p2))).2.1 p1).2))))), (up J a2 (fun _ => 0)), (alρ ρ (1, (tn p2))), a2) else none) else none) else none) else none)) else none) else none)) else none)
theorem c_J7_copyOf_59c91 {G : Gd} {d N : Nat} {K : Ah → Option Value → Prop} {ρ : Rh} {I : Nat → Nat → Int32} {J : Nat → Nat → Int64} {p1 : Nat} {p2 : Int32} {o : (Nat → Nat → Int32) × (Nat → Nat → Int64) × (Rh) × Nat} (hs : Sh ρ) (hf : f_J7_copyOf_59c91 N ρ I J p1 p2 = some o) (hK : (Sh o.2.2.1 → K (o.1, o.2.1, o.2.2.1) (some (.ref o.2.2.2)))) : AM G (d + 1) 1 160 mJ7_copyOf_59c91 [.ref p1, .int p2] (I, J, ρ) K := by
  unfold f_J7_copyOf_59c91 at hf
  refine AM.intro okJ7_copyOf_59c91.2.2.2.1 (Nat.le_of_ble_eq_true rfl) [some (.ref p1), some (.int p2), none] rfl ?_
  refine AW.iload_n dJ7_copyOf_59c91_0 rfl ?_
  refine AW.aload_n dJ7_copyOf_59c91_1 rfl ?_
  obtain ⟨h1, hf⟩ := gd_split hf
  refine TW.alen h1 (by decide) (by decide) rfl dJ7_copyOf_59c91_2 ?_
  refine AW.icmp_ne (tgt := 14) dJ7_copyOf_59c91_3 (by decide) (fun hc => ?_) (fun hc => ?_)
  · have hf := (if_neg hc).symm.trans hf
    refine AW.iload_n dJ7_copyOf_59c91_14 rfl ?_
    obtain ⟨h3, hf⟩ := gd_split hf
    obtain ⟨h4, hf⟩ := gd_split hf
    refine AW.le (c' := 1 + 0) (n' := (tn p2) + 0) (by decide) h4 ?_
    obtain ⟨a2, ga2, hf⟩ := bnd_one hf
    refine TW.newPrim (t := 1) (N := (tn p2)) (c := 0) (n := 0) rfl (by decide) (by decide) ac_int h3 rfl (Nat.le_trans h4 (by decide)) ga2 dJ7_copyOf_59c91_15 ?_
    have hs := Sh.al hs (1, (tn p2))
    show AW G mJ7_copyOf_59c91 (d + 1) 0 0 K 17 [some (.ref p1), some (.int p2), none] [.ref a2] ((up I a2 (fun _ => 0)), (up J a2 (fun _ => 0)), (alρ ρ (1, (tn p2))))
    refine AW.astore_n (ls' := [some (.ref p1), some (.int p2), some (.ref a2)]) dJ7_copyOf_59c91_17 (Nat.le_of_ble_eq_true rfl) rfl ?_
    refine AW.aload_n dJ7_copyOf_59c91_18 rfl ?_
    refine AW.iconst (v := (0 : Int32)) dJ7_copyOf_59c91_19 (by decide) ?_
    refine AW.aload_n dJ7_copyOf_59c91_20 rfl ?_
    refine AW.iconst (v := (0 : Int32)) dJ7_copyOf_59c91_21 (by decide) ?_
    refine AW.aload_n dJ7_copyOf_59c91_22 rfl ?_
    obtain ⟨h5, hf⟩ := gd_split hf
    refine TW.alen h5 (by decide) (by decide) rfl dJ7_copyOf_59c91_23 ?_
    refine AW.iload_n dJ7_copyOf_59c91_24 rfl ?_
    refine AW.mmin mtJ7_304 dJ7_copyOf_59c91_25 (Nat.le_of_ble_eq_true rfl) ?_
    obtain ⟨h6, hf⟩ := gd_split hf
    obtain ⟨h7, hf⟩ := gd_split hf
    obtain ⟨h8, hf⟩ := gd_split hf
    refine TW.copyI cpJ7_150 h5 (alk ga2) (by decide) (by decide) h6 h7 h8 (Nat.le_of_ble_eq_true rfl) dJ7_copyOf_59c91_28 ?_
    show AW G mJ7_copyOf_59c91 (d + 1) 0 0 K 31 [some (.ref p1), some (.int p2), some (.ref a2)] [] ((up (up I a2 (fun _ => 0)) a2 (cpy ((up I a2 (fun _ => 0)) p1) ((up I a2 (fun _ => 0)) a2) (tn (0 : Int32)) (tn (0 : Int32)) (tn (if p2 < (Int32.ofNat ((alρ ρ (1, (tn p2))).2.1 p1).2) then p2 else (Int32.ofNat ((alρ ρ (1, (tn p2))).2.1 p1).2))))), (up J a2 (fun _ => 0)), (alρ ρ (1, (tn p2))))
    refine AW.aload_n dJ7_copyOf_59c91_31 rfl ?_
    obtain rfl := Option.some.inj hf
    exact AW.aret (st := []) (o := (some a2)) dJ7_copyOf_59c91_32 (Or.inr ⟨_, rfl⟩) ((show Sh (alρ ρ (1, (tn p2))) → _ from hK) hs)
  · have hf := (if_pos hc).symm.trans hf
    refine AW.aload_n dJ7_copyOf_59c91_6 rfl ?_
    cases hf
def f_X11_text (N : Nat) (ρ : Rh) (I : Nat → Nat → Int32) (J : Nat → Nat → Int64) : Option ((Nat → Nat → Int32) × (Nat → Nat → Int64) × (Rh) × Int32) := (if ((I 32 5) < (0 : Int32)) then some (I, J, ρ, (-4 : Int32)) else (if ((I 32 5) < (6 : Int32)) then (Option.bind (f_X8_readWhole N ρ I J) fun v1 => (if (v1.2 = (0 : Int32)) then some ((u2 v1.1 35 1 (0 : Int32)), J, ρ, ((-100 : Int32) - (v1.1 35 6))) else (bnd (32 + ρ.2.2) fun a2 => (Option.bind (f_J7_copyOf_59c91 N (alρ ρ (0, 2)) (up (u2 v1.1 35 1 (0 : Int32)) a2 (fun _ => 0)) (up J a2 (fun _ => 0)) 37 ((up (u2 v1.1 35 1 (0 : Int32)) a2 (fun _ => 0)) 35 3)) fun v3 => (Option.bind (f_X2_init N v3.2.2.1 v3.1 v3.2.1 a2 ((up (u2 v1.1 35 1 (0 : Int32)) a2 (fun _ => 0)) 32 5) v3.2.2.2 (v3.1 35 4)) fun v4 => (if ¬ ((v1.1 32 5) < 0 ∨ 6 ≤ tn (v1.1 32 5)) then (if v4.2.2.1 a2 = (0, 2) then some ((u2 v4.1 32 5 ((v4.1 32 5) + (1 : Int32))), v3.2.1, (u2 v4.2.1 34 (tn (v1.1 32 5)) (some a2), v4.2.2), (((v4.1 32 5) + (1 : Int32)) - (1 : Int32))) else none) else none)))))) else some (I, J, ρ, (-4 : Int32))))
theorem c_X11_text {G : Gd} {d N : Nat} {K : Ah → Option Value → Prop} {ρ : Rh} {I : Nat → Nat → Int32} {J : Nat → Nat → Int64} {o : (Nat → Nat → Int32) × (Nat → Nat → Int64) × (Rh) × Int32} (hs : Sh ρ) (hf : f_X11_text N ρ I J = some o) (hK : (Sh o.2.2.1 → K (o.1, o.2.1, o.2.2.1) (some (.int o.2.2.2)))) : AM G (d + 74) 2 163 mX11_text [.ref 32] (I, J, ρ) K := by
  unfold f_X11_text at hf
  refine AM.intro okX11_text.2.2.2.1 (Nat.le_of_ble_eq_true rfl) [some (.ref 32), none] rfl ?_
  refine AW.aload_n dX11_text_0 rfl ?_
  refine TW.getI (x := (I 32 5)) fX11_41_11 hs.k32 rfl dX11_text_1 ?_
  refine AW.if_lt (tgt := 16) dX11_text_4 (by decide) (fun hc => ?_) (fun hc => ?_)
  · have hf := (if_pos hc).symm.trans hf
    refine AW.bipush (v := (-4 : Int32)) dX11_text_16 (by decide) ?_
    obtain rfl := Option.some.inj hf
    exact AW.iret (st := []) dX11_text_18 rfl ((show Sh ρ → _ from hK) hs)
  · have hf := (if_neg hc).symm.trans hf
    refine AW.aload_n dX11_text_7 rfl ?_
    refine TW.getI (x := (I 32 5)) fX11_41_11 hs.k32 rfl dX11_text_8 ?_
    refine AW.bipush (v := (6 : Int32)) dX11_text_11 (by decide) ?_
    refine AW.icmp_lt (tgt := 19) dX11_text_13 (by decide) (fun hc => ?_) (fun hc => ?_)
    · have hf := (if_pos hc).symm.trans hf
      refine AW.aload_n dX11_text_19 rfl ?_
      refine TW.getR fX11_24_11 hs.k32 (rf_some hs.r32_6) dX11_text_20 ?_
      obtain ⟨v1, gv1, hf⟩ := ob_split hf
      refine TW.invv (as := []) (rest := []) viX11_151_8 hs.k35 dX11_text_23 rfl rfl (Nat.le_of_ble_eq_true rfl) (c_X8_readWhole hs gv1 ?_)
      show AW G mX11_text (d + 74) 2 163 K 26 [some (.ref 32), none] [.int v1.2] (v1.1, J, ρ)
      refine AW.istore_n (ls' := [some (.ref 32), some (.int v1.2)]) dX11_text_26 (Nat.le_of_ble_eq_true rfl) rfl ?_
      refine AW.aload_n dX11_text_27 rfl ?_
      refine TW.getR fX11_24_11 hs.k32 (rf_some hs.r32_6) dX11_text_28 ?_
      refine AW.iconst (v := (0 : Int32)) dX11_text_31 (by decide) ?_
      refine TW.putI fX11_113_8 hs.k35 (Or.inl rfl) dX11_text_32 ?_
      show AW G mX11_text (d + 74) 2 163 K 35 [some (.ref 32), some (.int v1.2)] [] ((u2 v1.1 35 1 (0 : Int32)), J, ρ)
      refine AW.iload_n dX11_text_35 rfl ?_
      refine AW.if_ne (tgt := 50) dX11_text_36 (by decide) (fun hc => ?_) (fun hc => ?_)
      · have hf := (if_neg hc).symm.trans hf
        refine AW.aload_n dX11_text_50 rfl ?_
        refine TW.getR fX11_17_11 hs.k32 (rf_some hs.r32_4) dX11_text_51 ?_
        refine AW.aload_n dX11_text_54 rfl ?_
        refine TW.getI (x := (v1.1 32 5)) fX11_41_11 hs.k32 (u2_ne (by decide)) dX11_text_55 ?_
        obtain ⟨a2, ga2, hf⟩ := bnd_one hf
        refine TW.new (c := 1) (n := 160) nrX11_15 ga2 dX11_text_58 ?_
        have hs := Sh.al hs (0, 2)
        show AW G mX11_text (d + 74) 1 160 K 61 [some (.ref 32), some (.int v1.2)] [.ref a2, .int (v1.1 32 5), .ref 34] ((up (u2 v1.1 35 1 (0 : Int32)) a2 (fun _ => 0)), (up J a2 (fun _ => 0)), (alρ ρ (0, 2)))
        refine AW.dup dX11_text_61 rfl ?_
        refine AW.aload_n dX11_text_62 rfl ?_
        refine TW.getI (x := ((up (u2 v1.1 35 1 (0 : Int32)) a2 (fun _ => 0)) 32 5)) fX11_41_11 hs.k32 rfl dX11_text_63 ?_
        refine AW.aload_n dX11_text_66 rfl ?_
        refine TW.getR fX11_24_11 hs.k32 (rf_some hs.r32_6) dX11_text_67 ?_
        refine TW.getR fX11_157_8 hs.k35 (rf_some hs.r35_2) dX11_text_70 ?_
        refine AW.aload_n dX11_text_73 rfl ?_
        refine TW.getR fX11_24_11 hs.k32 (rf_some hs.r32_6) dX11_text_74 ?_
        refine TW.getI (x := ((up (u2 v1.1 35 1 (0 : Int32)) a2 (fun _ => 0)) 35 3)) fX11_160_8 hs.k35 rfl dX11_text_77 ?_
        obtain ⟨v3, gv3, hf⟩ := ob_split hf
        refine AW.invs (c1 := 1) (n1 := 160) (c := 0) (n := 0) (as := [.ref 37, .int ((up (u2 v1.1 35 1 (0 : Int32)) a2 (fun _ => 0)) 35 3)]) (rest := [.int ((up (u2 v1.1 35 1 (0 : Int32)) a2 (fun _ => 0)) 32 5), .ref a2, .ref a2, .int (v1.1 32 5), .ref 34]) stX11_163 dX11_text_80 rfl rfl (Nat.le_of_ble_eq_true rfl) (c_J7_copyOf_59c91 hs gv3 (fun hs => ?_))
        show AW G mX11_text (d + 74) 0 0 K 83 [some (.ref 32), some (.int v1.2)] [.ref v3.2.2.2, .int ((up (u2 v1.1 35 1 (0 : Int32)) a2 (fun _ => 0)) 32 5), .ref a2, .ref a2, .int (v1.1 32 5), .ref 34] (v3.1, v3.2.1, v3.2.2.1)
        refine AW.aload_n dX11_text_83 rfl ?_
        refine TW.getR fX11_24_11 hs.k32 (rf_some hs.r32_6) dX11_text_84 ?_
        refine TW.getI (x := (v3.1 35 4)) fX11_169_8 hs.k35 rfl dX11_text_87 ?_
        obtain ⟨v4, gv4, hf⟩ := ob_split hf
        refine AW.zz (AW.invi (a := a2) (c1 := 0) (n1 := 0) (c := 0) (n := 0) (as := [.int ((up (u2 v1.1 35 1 (0 : Int32)) a2 (fun _ => 0)) 32 5), .ref v3.2.2.2, .int (v3.1 35 4)]) (rest := [.ref a2, .int (v1.1 32 5), .ref 34]) inX11_38 dX11_text_90 rfl rfl (Nat.le_of_ble_eq_true rfl) (c_X2_init hs gv4 (fun hs => ?_)))
        show AW G mX11_text (d + 74) 0 0 K 93 [some (.ref 32), some (.int v1.2)] [.ref a2, .int (v1.1 32 5), .ref 34] (v4.1, v3.2.1, v4.2)
        obtain ⟨h5, hf⟩ := gd_split hf
        obtain ⟨h6, hf⟩ := gd_split hf
        refine TW.aast (t := 1) hs.k34 (by decide) h5 h6 (Or.inr (Or.inl ⟨rfl, rfl⟩)) dX11_text_93 ?_
        have hs := Sh.put hs 34 (tn (v1.1 32 5)) (some a2) (fun q hq z => shR_34 q hq z.1) (by decide)
        show AW G mX11_text (d + 74) 0 0 K 94 [some (.ref 32), some (.int v1.2)] [] (v4.1, v3.2.1, (u2 v4.2.1 34 (tn (v1.1 32 5)) (some a2), v4.2.2))
        refine AW.aload_n dX11_text_94 rfl ?_
        refine AW.dup dX11_text_95 rfl ?_
        refine TW.getI (x := (v4.1 32 5)) fX11_41_11 hs.k32 rfl dX11_text_96 ?_
        refine AW.iconst (v := (1 : Int32)) dX11_text_99 (by decide) ?_
        refine AW.iadd dX11_text_100 ?_
        refine TW.putI fX11_41_11 hs.k32 (Or.inl rfl) dX11_text_101 ?_
        show AW G mX11_text (d + 74) 0 0 K 104 [some (.ref 32), some (.int v1.2)] [] ((u2 v4.1 32 5 ((v4.1 32 5) + (1 : Int32))), v3.2.1, (u2 v4.2.1 34 (tn (v1.1 32 5)) (some a2), v4.2.2))
        refine AW.aload_n dX11_text_104 rfl ?_
        refine TW.getI (x := ((v4.1 32 5) + (1 : Int32))) fX11_41_11 hs.k32 u2_eq dX11_text_105 ?_
        refine AW.iconst (v := (1 : Int32)) dX11_text_108 (by decide) ?_
        refine AW.isub dX11_text_109 ?_
        obtain rfl := Option.some.inj hf
        exact AW.iret (st := []) dX11_text_110 rfl ((show Sh (u2 v4.2.1 34 (tn (v1.1 32 5)) (some a2), v4.2.2) → _ from hK) hs)
      · have hf := (if_pos hc).symm.trans hf
        refine AW.bipush (v := (-100 : Int32)) dX11_text_39 (by decide) ?_
        refine AW.aload_n dX11_text_41 rfl ?_
        refine TW.getR fX11_24_11 hs.k32 (rf_some hs.r32_6) dX11_text_42 ?_
        refine TW.getI (x := (v1.1 35 6)) fX11_154_8 hs.k35 (u2_nk (by decide)) dX11_text_45 ?_
        refine AW.isub dX11_text_48 ?_
        obtain rfl := Option.some.inj hf
        exact AW.iret (st := []) dX11_text_49 rfl ((show Sh ρ → _ from hK) hs)
    · have hf := (if_neg hc).symm.trans hf
      refine AW.bipush (v := (-4 : Int32)) dX11_text_16 (by decide) ?_
      obtain rfl := Option.some.inj hf
      exact AW.iret (st := []) dX11_text_18 rfl ((show Sh ρ → _ from hK) hs)
def f_X11_image (N : Nat) (ρ : Rh) (I : Nat → Nat → Int32) (J : Nat → Nat → Int64) : Option ((Nat → Nat → Int32) × (Nat → Nat → Int64) × (Rh) × Int32) := (bnd (ρ.1 32 1) fun o1 => (((ocase o1 ((bnd (32 + ρ.2.2) fun a3 => (Option.bind ((alρ ρ (0, 0)).1 42 6) fun a4 => (Option.bind (f_X0_init N (alρ ρ (0, 0)) (up I a3 (fun _ => 0)) (up J a3 (fun _ => 0)) a3 a4) fun v5 => some (v5.1, v5.2.1, (u2 v5.2.2.1 32 1 (some a3), v5.2.2.2)))))) (fun a2 => some (I, J, ρ))) : Option ((Nat → Nat → Int32) × (Nat → Nat → Int64) × Rh)).bind fun j6 => (Option.bind (j6.2.2.1 32 1) fun a7 => (if j6.2.2.2.1 a7 = (0, 0) then (Option.bind (j6.2.2.1 32 1) fun a9 => (if j6.2.2.2.1 a9 = (0, 0) then (Option.bind (f_X0_keep N j6.2.2 (u2 j6.1 a7 0 (j6.1 42 0)) j6.2.1 a9 42) fun v11 => some (v11.1, j6.2.1, v11.2, (v11.1 42 0))) else none)) else none))))
theorem c_X11_image {G : Gd} {d N : Nat} {K : Ah → Option Value → Prop} {ρ : Rh} {I : Nat → Nat → Int32} {J : Nat → Nat → Int64} {o : (Nat → Nat → Int32) × (Nat → Nat → Int64) × (Rh) × Int32} (hs : Sh ρ) (hf : f_X11_image N ρ I J = some o) (hK : (Sh o.2.2.1 → K (o.1, o.2.1, o.2.2.1) (some (.int o.2.2.2)))) : AM G (d + 2) 6 51 mX11_image [.ref 32] (I, J, ρ) K := by
  unfold f_X11_image at hf
  refine AM.intro okX11_image.2.2.2.1 (Nat.le_of_ble_eq_true rfl) [some (.ref 32)] rfl ?_
  refine AW.aload_n dX11_image_0 rfl ?_
  obtain ⟨o1, go1, hf⟩ := bnd_one hf
  refine TW.getR (v := va_rf o1) fX11_238_11 hs.k32 (congrArg va_rf go1) dX11_image_1 ?_
  obtain ⟨j6, gj6, hf⟩ := ob_split hf
  have Kj6 : (Sh j6.2.2 → AW G mX11_image (d + 2) 0 0 K 25 [some (.ref 32)] [] (j6.1, j6.2.1, j6.2.2)) := by
    intro hs
    refine AW.aload_n dX11_image_25 rfl ?_
    obtain ⟨a7, ga7, hf⟩ := ob_split hf
    refine TW.getR (v := .ref a7) fX11_238_11 hs.k32 (rf_some ga7) dX11_image_26 ?_
    refine AW.aload_n dX11_image_29 rfl ?_
    refine TW.getR fX11_50_11 hs.k32 (rf_some hs.r32_0) dX11_image_30 ?_
    refine TW.getI (x := (j6.1 42 0)) fX11_71_0 hs.k42 rfl dX11_image_33 ?_
    obtain ⟨h8, hf⟩ := gd_split hf
    refine TW.putI fX11_71_0 h8 (Or.inl rfl) dX11_image_36 ?_
    show AW G mX11_image (d + 2) 0 0 K 39 [some (.ref 32)] [] ((u2 j6.1 a7 0 (j6.1 42 0)), j6.2.1, j6.2.2)
    refine AW.aload_n dX11_image_39 rfl ?_
    obtain ⟨a9, ga9, hf⟩ := ob_split hf
    refine TW.getR (v := .ref a9) fX11_238_11 hs.k32 (rf_some ga9) dX11_image_40 ?_
    refine AW.aload_n dX11_image_43 rfl ?_
    refine TW.getR fX11_50_11 hs.k32 (rf_some hs.r32_0) dX11_image_44 ?_
    obtain ⟨h10, hf⟩ := gd_split hf
    obtain ⟨v11, gv11, hf⟩ := ob_split hf
    refine TW.invv (as := [.ref 42]) (rest := []) viX11_241_0 h10 dX11_image_47 rfl rfl (Nat.le_of_ble_eq_true rfl) (c_X0_keep hs gv11 (fun hs => ?_))
    show AW G mX11_image (d + 2) 0 0 K 50 [some (.ref 32)] [] (v11.1, j6.2.1, v11.2)
    refine AW.aload_n dX11_image_50 rfl ?_
    refine TW.getR fX11_50_11 hs.k32 (rf_some hs.r32_0) dX11_image_51 ?_
    refine TW.getI (x := (v11.1 42 0)) fX11_71_0 hs.k42 rfl dX11_image_54 ?_
    obtain rfl := Option.some.inj hf
    exact AW.iret (st := []) dX11_image_57 rfl ((show Sh v11.2 → _ from hK) hs)
  clear hf; have hf := gj6; clear gj6
  refine AW.ifnonnull (tgt := 25) dX11_image_4 (by decide) (fun a2 hc => ?_) (fun hc => ?_)
  · have hf := ocase_s hc hf
    have hma2 := go1.trans hc
    try rw [hc]
    show AW G mX11_image (d + 2) 6 51 K 25 [some (.ref 32)] [] (I, J, ρ)
    obtain rfl := Option.some.inj hf
    exact AW.le (Nat.le_of_ble_eq_true rfl) (Nat.le_of_ble_eq_true rfl) (AW.weak _ (by exact (And.intro rfl trivial)) ((show Sh ρ → _ from Kj6) hs))
  · have hf := ocase_n hc hf
    try rw [hc]
    show AW G mX11_image (d + 2) 6 51 K 7 [some (.ref 32)] [] (I, J, ρ)
    refine AW.aload_n dX11_image_7 rfl ?_
    obtain ⟨a3, ga3, hf⟩ := bnd_one hf
    refine TW.new (c := 5) (n := 44) nrX11_45 ga3 dX11_image_8 ?_
    have hs := Sh.al hs (0, 0)
    show AW G mX11_image (d + 2) 5 44 K 11 [some (.ref 32)] [.ref a3, .ref 32] ((up I a3 (fun _ => 0)), (up J a3 (fun _ => 0)), (alρ ρ (0, 0)))
    refine AW.dup dX11_image_11 rfl ?_
    refine AW.aload_n dX11_image_12 rfl ?_
    refine TW.getR fX11_50_11 hs.k32 (rf_some hs.r32_0) dX11_image_13 ?_
    obtain ⟨a4, ga4, hf⟩ := ob_split hf
    refine TW.getR (v := .ref a4) fX11_106_0 hs.k42 (rf_some ga4) dX11_image_16 ?_
    obtain ⟨v5, gv5, hf⟩ := ob_split hf
    refine AW.invi (a := a3) (c1 := 5) (n1 := 44) (c := 0) (n := 0) (as := [.ref a4]) (rest := [.ref a3, .ref 32]) inX11_47 dX11_image_19 rfl rfl (Nat.le_of_ble_eq_true rfl) (c_X0_init hs gv5 (fun hs => ?_))
    show AW G mX11_image (d + 2) 0 0 K 22 [some (.ref 32)] [.ref a3, .ref 32] (v5.1, v5.2.1, v5.2.2)
    refine TW.putR (o := (some a3)) fX11_238_11 hs.k32 rfl (Or.inl rfl) dX11_image_22 ?_
    have hs := Sh.put hs 32 1 (some a3) (by decide) (by decide)
    show AW G mX11_image (d + 2) 0 0 K 25 [some (.ref 32)] [] (v5.1, v5.2.1, (u2 v5.2.2.1 32 1 (some a3), v5.2.2.2))
    obtain rfl := Option.some.inj hf
    exact AW.weak _ (by exact (And.intro rfl trivial)) ((show Sh (u2 v5.2.2.1 32 1 (some a3), v5.2.2.2) → _ from Kj6) hs)
