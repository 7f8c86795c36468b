/-! ===== methods 14.model 6 ===== -/
def f_X12_all (N : Nat) (ρ : Rh) (I : Nat → Nat → Int32) (J : Nat → Nat → Int64) : Option (Int32) := some (((1 : Int32) <<< ((I 89 0) &&& 31)) - (1 : Int32))
theorem c_X12_all {G : Gd} {d N : Nat} {K : Ah → Option Value → Prop} {ρ : Rh} {I : Nat → Nat → Int32} {J : Nat → Nat → Int64} {o : Int32} (hs : Sh ρ) (hf : f_X12_all N ρ I J = some o) (hK : K (I, J, ρ) (some (.int o))) : AM G d 0 0 mX12_all [.ref 89] (I, J, ρ) K := by
  unfold f_X12_all at hf
  refine AM.intro okX12_all.2.2.2.1 (Nat.le_of_ble_eq_true rfl) [some (.ref 89)] rfl ?_
  refine AW.iconst (v := (1 : Int32)) dX12_all_0 (by decide) ?_
  refine AW.aload_n dX12_all_1 rfl ?_
  refine TW.getI (x := (I 89 0)) fX12_130_12 hs.k89 rfl dX12_all_2 ?_
  refine AW.ishl dX12_all_5 ?_
  refine AW.iconst (v := (1 : Int32)) dX12_all_6 (by decide) ?_
  refine AW.isub dX12_all_7 ?_
  obtain rfl := Option.some.inj hf
  exact AW.iret (st := []) dX12_all_8 rfl hK
def f_X12_goesPlain (N : Nat) (ρ : Rh) (I : Nat → Nat → Int32) (J : Nat → Nat → Int64) (p1 : Int32) : Option ((Nat → Nat → Int32)) := (Option.bind (f_X12_all N ρ I J) fun v1 => (Option.bind (f_X12_goes N ρ I J p1 v1 (-1 : Int32) (0 : Int32)) fun v2 => some v2))
theorem c_X12_goesPlain {G : Gd} {d N : Nat} {K : Ah → Option Value → Prop} {ρ : Rh} {I : Nat → Nat → Int32} {J : Nat → Nat → Int64} {p1 : Int32} {o : (Nat → Nat → Int32)} (hs : Sh ρ) (hf : f_X12_goesPlain N ρ I J p1 = some o) (hK : K (o, J, ρ) none) : AM G (d + 3) 0 0 mX12_goesPlain [.ref 89, .int p1] (I, J, ρ) K := by
  unfold f_X12_goesPlain at hf
  refine AM.intro okX12_goesPlain.2.2.2.1 (Nat.le_of_ble_eq_true rfl) [some (.ref 89), some (.int p1)] rfl ?_
  refine AW.aload_n dX12_goesPlain_0 rfl ?_
  refine AW.iload_n dX12_goesPlain_1 rfl ?_
  refine AW.aload_n dX12_goesPlain_2 rfl ?_
  obtain ⟨v1, gv1, hf⟩ := ob_split hf
  refine TW.invv (as := []) (rest := [.int p1, .ref 89]) viX12_239_12 hs.k89 dX12_goesPlain_3 rfl rfl (Nat.le_of_ble_eq_true rfl) (c_X12_all hs gv1 ?_)
  show AW G mX12_goesPlain (d + 3) 0 0 K 6 [some (.ref 89), some (.int p1)] [.int v1, .int p1, .ref 89] (I, J, ρ)
  refine AW.iconst (v := (-1 : Int32)) dX12_goesPlain_6 (by decide) ?_
  refine AW.iconst (v := (0 : Int32)) dX12_goesPlain_7 (by decide) ?_
  obtain ⟨v2, gv2, hf⟩ := ob_split hf
  refine TW.invv (as := [.int p1, .int v1, .int (-1 : Int32), .int (0 : Int32)]) (rest := []) viX12_242_12 hs.k89 dX12_goesPlain_8 rfl rfl (Nat.le_of_ble_eq_true rfl) (c_X12_goes hs gv2 ?_)
  show AW G mX12_goesPlain (d + 3) 0 0 K 11 [some (.ref 89), some (.int p1)] [] (v2, J, ρ)
  obtain rfl := Option.some.inj hf
  exact AW.vret (st := []) dX12_goesPlain_11 rfl hK
def f_X12_below_4 (N : Nat) (I : Nat → Nat → Int32) (J : Nat → Nat → Int64) (ρ : Rh) : Nat → Int64 → Int32 → Option (Int64)
  | 0, _, _ => none
  | n + 1, q1, i2 => (if ((I 89 3) ≤ i2) then some q1 else f_X12_below_4 N I J ρ n (q1 * (10 : Int64)) (i2 + (1 : Int32)))
theorem l_X12_below_4 {G : Gd} {d N : Nat} {K : Ah → Option Value → Prop} {I : Nat → Nat → Int32} {J : Nat → Nat → Int64} {ρ : Rh} (hs : Sh ρ) {o : Int64} : ∀ (n : Nat) (q1 : Int64) (i2 : Int32), f_X12_below_4 N I J ρ n q1 i2 = some o → AW G mX12_below d 0 0 K 24 [none, some (.long o), none, none] [] (I, J, ρ) → AW G mX12_below d 0 0 K 4 [some (.ref 89), some (.long q1), none, some (.int i2)] [] (I, J, ρ) := by
  intro n
  induction n with
  | zero => intro q1 i2 hf hE; rw [f_X12_below_4.eq_1] at hf; cases hf
  | succ n ih =>
    intro q1 i2 hf hE
    rw [f_X12_below_4.eq_2] at hf
    refine AW.iload_n dX12_below_4 rfl ?_
    refine AW.aload_n dX12_below_5 rfl ?_
    refine TW.getI (x := (I 89 3)) fX12_16_12 hs.k89 rfl dX12_below_6 ?_
    refine AW.icmp_ge (tgt := 24) dX12_below_9 (by decide) (fun hc => ?_) (fun hc => ?_)
    · have hf := (if_pos hc).symm.trans hf
      obtain rfl := Option.some.inj hf
      exact AW.weak _ (by exact (And.intro rfl trivial)) hE
    · have hf := (if_neg hc).symm.trans hf
      refine AW.lload_n dX12_below_12 rfl ?_
      refine AW.ldc2 dX12_below_13 kcX12_246 ?_
      refine AW.lmul dX12_below_16 ?_
      refine AW.lstore_n (ls' := [some (.ref 89), some (.long (q1 * (10 : Int64))), none, some (.int i2)]) dX12_below_17 (Nat.le_of_ble_eq_true rfl) rfl ?_
      refine AW.iinc (v := (i2 + (1 : Int32))) (ls' := [some (.ref 89), some (.long (q1 * (10 : Int64))), none, some (.int (i2 + (1 : Int32)))]) dX12_below_18 rfl rfl (Nat.le_of_ble_eq_true rfl) rfl ?_
      refine AW.goto (tgt := 4) dX12_below_21 (by decide) ?_
      exact AW.weak _ (by exact (And.intro rfl (And.intro rfl (And.intro rfl trivial)))) (ih (q1 * (10 : Int64)) (i2 + (1 : Int32)) hf hE)
def f_X12_below (N : Nat) (ρ : Rh) (I : Nat → Nat → Int32) (J : Nat → Nat → Int64) : Option (Int64) := ((f_X12_below_4 N I J ρ N (1 : Int64) (0 : Int32)).bind fun j3 => some j3)
theorem c_X12_below {G : Gd} {d N : Nat} {K : Ah → Option Value → Prop} {ρ : Rh} {I : Nat → Nat → Int32} {J : Nat → Nat → Int64} {o : Int64} (hs : Sh ρ) (hf : f_X12_below N ρ I J = some o) (hK : K (I, J, ρ) (some (.long o))) : AM G d 0 0 mX12_below [.ref 89] (I, J, ρ) K := by
  unfold f_X12_below at hf
  refine AM.intro okX12_below.2.2.2.1 (Nat.le_of_ble_eq_true rfl) [some (.ref 89), none, none, none] rfl ?_
  refine AW.lconst (v := (1 : Int64)) dX12_below_0 (by decide) ?_
  refine AW.lstore_n (ls' := [some (.ref 89), some (.long (1 : Int64)), none, none]) dX12_below_1 (Nat.le_of_ble_eq_true rfl) rfl ?_
  refine AW.iconst (v := (0 : Int32)) dX12_below_2 (by decide) ?_
  refine AW.istore_n (ls' := [some (.ref 89), some (.long (1 : Int64)), none, some (.int (0 : Int32))]) dX12_below_3 (Nat.le_of_ble_eq_true rfl) rfl ?_
  obtain ⟨j3, gj3, hf⟩ := ob_split hf
  refine AW.weak _ (by exact (And.intro rfl (And.intro rfl (And.intro rfl trivial)))) (l_X12_below_4 hs N (1 : Int64) (0 : Int32) gj3 ?_)
  show AW G mX12_below d 0 0 K 24 [none, some (.long j3), none, none] [] (I, J, ρ)
  refine AW.lload_n dX12_below_24 rfl ?_
  obtain rfl := Option.some.inj hf
  exact AW.lret (st := []) dX12_below_25 rfl hK
def f_X12_homeOf_34 (N : Nat) (I : Nat → Nat → Int32) (J : Nat → Nat → Int64) (ρ : Rh) (p1 : Int32) (j2 : Int32) : Nat → Int64 → Int64 → Int32 → Option (Int64 × Int64)
  | 0, _, _, _ => none
  | n + 1, q3, q4, i5 => (if (j2 < i5) then some (q3, q4) else (if ¬ (i5 < 0 ∨ 12 ≤ tn i5) then (bnd ((q3 / (10 : Int64)) * ((I 92 (tn i5)).toInt64)) fun y7 => (if ¬ ((((8 : Int32) * i5) + p1) < 0 ∨ 104 ≤ tn (((8 : Int32) * i5) + p1)) then (((if ((I 100 (tn (((8 : Int32) * i5) + p1))) ≤ (0 : Int32)) then some (0 : Int64) else some y7) : Option (Int64)).bind fun j9 => f_X12_homeOf_34 N I J ρ p1 j2 n (q3 - y7) (q4 + j9) (i5 + (1 : Int32))) else none)) else none))
theorem l_X12_homeOf_34 {G : Gd} {d N : Nat} {K : Ah → Option Value → Prop} {I : Nat → Nat → Int32} {J : Nat → Nat → Int64} {ρ : Rh} {p1 : Int32} {j2 : Int32} (hs : Sh ρ) {o : Int64 × Int64} : ∀ (n : Nat) (q3 : Int64) (q4 : Int64) (i5 : Int32), f_X12_homeOf_34 N I J ρ p1 j2 n q3 q4 i5 = some o → AW G mX12_homeOf (d + 1) 0 0 K 94 [some (.ref 89), some (.int p1), some (.long o.1), none, some (.long o.2), none, none, none, none, none] [] (I, J, ρ) → AW G mX12_homeOf (d + 1) 0 0 K 34 [some (.ref 89), some (.int p1), some (.long q3), none, some (.long q4), none, some (.int j2), some (.int i5), none, none] [] (I, J, ρ) := by
  intro n
  induction n with
  | zero => intro q3 q4 i5 hf hE; rw [f_X12_homeOf_34.eq_1] at hf; cases hf
  | succ n ih =>
    intro q3 q4 i5 hf hE
    rw [f_X12_homeOf_34.eq_2] at hf
    refine AW.iload dX12_homeOf_34 rfl ?_
    refine AW.iload dX12_homeOf_36 rfl ?_
    refine AW.icmp_gt (tgt := 94) dX12_homeOf_38 (by decide) (fun hc => ?_) (fun hc => ?_)
    · have hf := (if_pos hc).symm.trans hf
      obtain rfl := Option.some.inj hf
      exact AW.weak _ (by exact (And.intro rfl (And.intro rfl (And.intro rfl (And.intro rfl trivial))))) hE
    · have hf := (if_neg hc).symm.trans hf
      refine AW.lload_n dX12_homeOf_41 rfl ?_
      refine AW.ldc2 dX12_homeOf_42 kcX12_246 ?_
      refine AW.ldiv (hne := (by decide)) dX12_homeOf_45 ?_
      refine AW.aload_n dX12_homeOf_46 rfl ?_
      refine TW.getR fX12_29_12 hs.k89 (rf_some hs.r89_7) dX12_homeOf_47 ?_
      refine AW.iload dX12_homeOf_50 rfl ?_
      obtain ⟨h6, hf⟩ := gd_split hf
      refine TW.iald (x := (I 92 (tn i5))) hs.k92 h6 rfl dX12_homeOf_52 ?_
      refine AW.i2l dX12_homeOf_53 ?_
      refine AW.lmul dX12_homeOf_54 ?_
      obtain ⟨y7, gy7, hf⟩ := bnd_one hf
      refine AW.nmJ gy7 ?_
      refine AW.lstore (ls' := [some (.ref 89), some (.int p1), some (.long q3), none, some (.long q4), none, some (.int j2), some (.int i5), some (.long y7), none]) dX12_homeOf_55 (Nat.le_of_ble_eq_true rfl) rfl ?_
      refine AW.lload dX12_homeOf_57 rfl ?_
      refine AW.aload_n dX12_homeOf_59 rfl ?_
      refine TW.getR fX12_56_12 hs.k89 (rf_some hs.r89_19) dX12_homeOf_60 ?_
      refine AW.bipush (v := (8 : Int32)) dX12_homeOf_63 (by decide) ?_
      refine AW.iload dX12_homeOf_65 rfl ?_
      refine AW.imul dX12_homeOf_67 ?_
      refine AW.iload_n dX12_homeOf_68 rfl ?_
      refine AW.iadd dX12_homeOf_69 ?_
      obtain ⟨h8, hf⟩ := gd_split hf
      refine TW.iald (x := (I 100 (tn (((8 : Int32) * i5) + p1)))) hs.k100 h8 rfl dX12_homeOf_70 ?_
      obtain ⟨j9, gj9, hf⟩ := ob_split hf
      have Kj9 : AW G mX12_homeOf (d + 1) 0 0 K 80 [some (.ref 89), some (.int p1), some (.long q3), none, none, none, some (.int j2), some (.int i5), some (.long y7), none] [.long j9, .long q4] (I, J, ρ) := by
        refine AW.ladd dX12_homeOf_80 ?_
        refine AW.lstore (ls' := [some (.ref 89), some (.int p1), some (.long q3), none, some (.long (q4 + j9)), none, some (.int j2), some (.int i5), some (.long y7), none]) dX12_homeOf_81 (Nat.le_of_ble_eq_true rfl) rfl ?_
        refine AW.lload_n dX12_homeOf_83 rfl ?_
        refine AW.lload dX12_homeOf_84 rfl ?_
        refine AW.lsub dX12_homeOf_86 ?_
        refine AW.lstore_n (ls' := [some (.ref 89), some (.int p1), some (.long (q3 - y7)), none, some (.long (q4 + j9)), none, some (.int j2), some (.int i5), some (.long y7), none]) dX12_homeOf_87 (Nat.le_of_ble_eq_true rfl) rfl ?_
        refine AW.iinc (v := (i5 + (1 : Int32))) (ls' := [some (.ref 89), some (.int p1), some (.long (q3 - y7)), none, some (.long (q4 + j9)), none, some (.int j2), some (.int (i5 + (1 : Int32))), some (.long y7), none]) dX12_homeOf_88 rfl rfl (Nat.le_of_ble_eq_true rfl) rfl ?_
        refine AW.goto (tgt := 34) dX12_homeOf_91 (by decide) ?_
        exact AW.weak _ (by exact (And.intro rfl (And.intro rfl (And.intro rfl (And.intro rfl (And.intro rfl (And.intro rfl trivial))))))) (ih (q3 - y7) (q4 + j9) (i5 + (1 : Int32)) hf hE)
      clear hf; have hf := gj9; clear gj9
      refine AW.if_le (tgt := 79) dX12_homeOf_71 (by decide) (fun hc => ?_) (fun hc => ?_)
      · have hf := (if_pos hc).symm.trans hf
        refine AW.lconst (v := (0 : Int64)) dX12_homeOf_79 (by decide) ?_
        obtain rfl := Option.some.inj hf
        exact AW.weak _ (by exact (And.intro rfl (And.intro rfl (And.intro rfl (And.intro rfl (And.intro rfl (And.intro rfl trivial))))))) Kj9
      · have hf := (if_neg hc).symm.trans hf
        refine AW.lload dX12_homeOf_74 rfl ?_
        refine AW.goto (tgt := 80) dX12_homeOf_76 (by decide) ?_
        obtain rfl := Option.some.inj hf
        exact AW.weak _ (by exact (And.intro rfl (And.intro rfl (And.intro rfl (And.intro rfl (And.intro rfl (And.intro rfl trivial))))))) Kj9
def f_X12_homeOf (N : Nat) (ρ : Rh) (I : Nat → Nat → Int32) (J : Nat → Nat → Int64) (p1 : Int32) : Option (Int64) := (Option.bind (f_X12_below N ρ I J) fun v1 => (((if ((I 89 23) = (-1 : Int32)) then some ((I 89 3) - (1 : Int32)) else some (I 89 23)) : Option (Int32)).bind fun j2 => ((f_X12_homeOf_34 N I J ρ p1 j2 N v1 (0 : Int64) (0 : Int32)).bind fun j10 => (if ((I 89 23) = (-1 : Int32)) then some j10.2 else (if ¬ (((((8 : Int32) * (I 89 23)) + (8 : Int32)) + p1) < 0 ∨ 104 ≤ tn ((((8 : Int32) * (I 89 23)) + (8 : Int32)) + p1)) then (if ((I 100 (tn ((((8 : Int32) * (I 89 23)) + (8 : Int32)) + p1))) ≤ (0 : Int32)) then some j10.2 else some (j10.2 + j10.1)) else none)))))
theorem c_X12_homeOf {G : Gd} {d N : Nat} {K : Ah → Option Value → Prop} {ρ : Rh} {I : Nat → Nat → Int32} {J : Nat → Nat → Int64} {p1 : Int32} {o : Int64} (hs : Sh ρ) (hf : f_X12_homeOf N ρ I J p1 = some o) (hK : K (I, J, ρ) (some (.long o))) : AM G (d + 1) 0 0 mX12_homeOf [.ref 89, .int p1] (I, J, ρ) K := by
  unfold f_X12_homeOf at hf
  refine AM.intro okX12_homeOf.2.2.2.1 (Nat.le_of_ble_eq_true rfl) [some (.ref 89), some (.int p1), none, none, none, none, none, none, none, none] rfl ?_
  refine AW.aload_n dX12_homeOf_0 rfl ?_
  obtain ⟨v1, gv1, hf⟩ := ob_split hf
  refine TW.invv (as := []) (rest := []) viX12_248_12 hs.k89 dX12_homeOf_1 rfl rfl (Nat.le_of_ble_eq_true rfl) (c_X12_below hs gv1 ?_)
  show AW G mX12_homeOf (d + 1) 0 0 K 4 [some (.ref 89), some (.int p1), none, none, none, none, none, none, none, none] [.long v1] (I, J, ρ)
  refine AW.lstore_n (ls' := [some (.ref 89), some (.int p1), some (.long v1), none, none, none, none, none, none, none]) dX12_homeOf_4 (Nat.le_of_ble_eq_true rfl) rfl ?_
  refine AW.lconst (v := (0 : Int64)) dX12_homeOf_5 (by decide) ?_
  refine AW.lstore (ls' := [some (.ref 89), some (.int p1), some (.long v1), none, some (.long (0 : Int64)), none, none, none, none, none]) dX12_homeOf_6 (Nat.le_of_ble_eq_true rfl) rfl ?_
  refine AW.aload_n dX12_homeOf_8 rfl ?_
  refine TW.getI (x := (I 89 23)) fX12_222_12 hs.k89 rfl dX12_homeOf_9 ?_
  refine AW.iconst (v := (-1 : Int32)) dX12_homeOf_12 (by decide) ?_
  obtain ⟨j2, gj2, hf⟩ := ob_split hf
  have Kj2 : AW G mX12_homeOf (d + 1) 0 0 K 29 [some (.ref 89), some (.int p1), some (.long v1), none, some (.long (0 : Int64)), none, none, none, none, none] [.int j2] (I, J, ρ) := by
    refine AW.istore (ls' := [some (.ref 89), some (.int p1), some (.long v1), none, some (.long (0 : Int64)), none, some (.int j2), none, none, none]) dX12_homeOf_29 (Nat.le_of_ble_eq_true rfl) rfl ?_
    refine AW.iconst (v := (0 : Int32)) dX12_homeOf_31 (by decide) ?_
    refine AW.istore (ls' := [some (.ref 89), some (.int p1), some (.long v1), none, some (.long (0 : Int64)), none, some (.int j2), some (.int (0 : Int32)), none, none]) dX12_homeOf_32 (Nat.le_of_ble_eq_true rfl) rfl ?_
    obtain ⟨j10, gj10, hf⟩ := ob_split hf
    refine AW.weak _ (by exact (And.intro rfl (And.intro rfl (And.intro rfl (And.intro rfl (And.intro rfl (And.intro rfl trivial))))))) (l_X12_homeOf_34 hs N v1 (0 : Int64) (0 : Int32) gj10 ?_)
    show AW G mX12_homeOf (d + 1) 0 0 K 94 [some (.ref 89), some (.int p1), some (.long j10.1), none, some (.long j10.2), none, none, none, none, none] [] (I, J, ρ)
    refine AW.aload_n dX12_homeOf_94 rfl ?_
    refine TW.getI (x := (I 89 23)) fX12_222_12 hs.k89 rfl dX12_homeOf_95 ?_
    refine AW.iconst (v := (-1 : Int32)) dX12_homeOf_98 (by decide) ?_
    refine AW.icmp_eq (tgt := 129) dX12_homeOf_99 (by decide) (fun hc => ?_) (fun hc => ?_)
    · have hf := (if_pos hc).symm.trans hf
      refine AW.lload dX12_homeOf_129 rfl ?_
      obtain rfl := Option.some.inj hf
      exact AW.lret (st := []) dX12_homeOf_131 rfl hK
    · have hf := (if_neg hc).symm.trans hf
      refine AW.aload_n dX12_homeOf_102 rfl ?_
      refine TW.getR fX12_56_12 hs.k89 (rf_some hs.r89_19) dX12_homeOf_103 ?_
      refine AW.bipush (v := (8 : Int32)) dX12_homeOf_106 (by decide) ?_
      refine AW.aload_n dX12_homeOf_108 rfl ?_
      refine TW.getI (x := (I 89 23)) fX12_222_12 hs.k89 rfl dX12_homeOf_109 ?_
      refine AW.imul dX12_homeOf_112 ?_
      refine AW.bipush (v := (8 : Int32)) dX12_homeOf_113 (by decide) ?_
      refine AW.iadd dX12_homeOf_115 ?_
      refine AW.iload_n dX12_homeOf_116 rfl ?_
      refine AW.iadd dX12_homeOf_117 ?_
      obtain ⟨h11, hf⟩ := gd_split hf
      refine TW.iald (x := (I 100 (tn ((((8 : Int32) * (I 89 23)) + (8 : Int32)) + p1)))) hs.k100 h11 rfl dX12_homeOf_118 ?_
      refine AW.if_le (tgt := 129) dX12_homeOf_119 (by decide) (fun hc => ?_) (fun hc => ?_)
      · have hf := (if_pos hc).symm.trans hf
        refine AW.lload dX12_homeOf_129 rfl ?_
        obtain rfl := Option.some.inj hf
        exact AW.lret (st := []) dX12_homeOf_131 rfl hK
      · have hf := (if_neg hc).symm.trans hf
        refine AW.lload dX12_homeOf_122 rfl ?_
        refine AW.lload_n dX12_homeOf_124 rfl ?_
        refine AW.ladd dX12_homeOf_125 ?_
        refine AW.goto (tgt := 131) dX12_homeOf_126 (by decide) ?_
        obtain rfl := Option.some.inj hf
        exact AW.lret (st := []) dX12_homeOf_131 rfl hK
  clear hf; have hf := gj2; clear gj2
  refine AW.icmp_ne (tgt := 25) dX12_homeOf_13 (by decide) (fun hc => ?_) (fun hc => ?_)
  · have hf := (if_neg hc).symm.trans hf
    refine AW.aload_n dX12_homeOf_25 rfl ?_
    refine TW.getI (x := (I 89 23)) fX12_222_12 hs.k89 rfl dX12_homeOf_26 ?_
    obtain rfl := Option.some.inj hf
    exact AW.weak _ (by exact (And.intro rfl (And.intro rfl (And.intro rfl (And.intro rfl trivial))))) Kj2
  · have hf := (if_pos hc).symm.trans hf
    refine AW.aload_n dX12_homeOf_16 rfl ?_
    refine TW.getI (x := (I 89 3)) fX12_16_12 hs.k89 rfl dX12_homeOf_17 ?_
    refine AW.iconst (v := (1 : Int32)) dX12_homeOf_20 (by decide) ?_
    refine AW.isub dX12_homeOf_21 ?_
    refine AW.goto (tgt := 29) dX12_homeOf_22 (by decide) ?_
    obtain rfl := Option.some.inj hf
    exact AW.weak _ (by exact (And.intro rfl (And.intro rfl (And.intro rfl (And.intro rfl trivial))))) Kj2
def f_X12_lowest_27 (N : Nat) (I : Nat → Nat → Int32) (J : Nat → Nat → Int64) (ρ : Rh) (p1 : Int64) (p2 : Int64) (p3 : Int32) : Nat → Int64 → Int64 → Option (Int64)
  | 0, _, _ => none
  | n + 1, q2, q3 => (if (q3 = (0 : Int64)) then some q2 else (if ¬ q3 = 0 then f_X12_lowest_27 N I J ρ p1 p2 p3 n q3 (q2 - q2 / q3 * q3) else none))
theorem l_X12_lowest_27 {G : Gd} {d N : Nat} {K : Ah → Option Value → Prop} {I : Nat → Nat → Int32} {J : Nat → Nat → Int64} {ρ : Rh} {p1 : Int64} {p2 : Int64} {p3 : Int32} (hs : Sh ρ) {o : Int64} : ∀ (n : Nat) (q2 : Int64) (q3 : Int64), f_X12_lowest_27 N I J ρ p1 p2 p3 n q2 q3 = some o → AW G mX12_lowest d 0 0 K 52 [some (.long p1), none, some (.long p2), none, some (.int p3), some (.long o), none, none, none, none, none] [] (I, J, ρ) → AW G mX12_lowest d 0 0 K 27 [some (.long p1), none, some (.long p2), none, some (.int p3), some (.long q2), none, some (.long q3), none, none, none] [] (I, J, ρ) := by
  intro n
  induction n with
  | zero => intro q2 q3 hf hE; rw [f_X12_lowest_27.eq_1] at hf; cases hf
  | succ n ih =>
    intro q2 q3 hf hE
    rw [f_X12_lowest_27.eq_2] at hf
    refine AW.lload dX12_lowest_27 rfl ?_
    refine AW.lconst (v := (0 : Int64)) dX12_lowest_29 (by decide) ?_
    refine AW.lcmp dX12_lowest_30 ?_
    refine AW.if_eq (tgt := 52) dX12_lowest_31 (by decide) (fun hc => ?_) (fun hc => ?_)
    · have hc : (q3 = (0 : Int64)) := (lc_eq _ _).mp hc; have hf := (if_pos hc).symm.trans hf
      obtain rfl := Option.some.inj hf
      exact AW.weak _ (by exact (And.intro rfl (And.intro rfl (And.intro rfl (And.intro rfl trivial))))) hE
    · have hc : ¬ (q3 = (0 : Int64)) := fun z => hc ((lc_eq _ _).mpr z); have hf := (if_neg hc).symm.trans hf
      refine AW.lload dX12_lowest_34 rfl ?_
      refine AW.lload dX12_lowest_36 rfl ?_
      obtain ⟨h4, hf⟩ := gd_split hf
      refine AW.lrem (hne := h4) dX12_lowest_38 ?_
      refine AW.lstore (ls' := [some (.long p1), none, some (.long p2), none, some (.int p3), some (.long q2), none, some (.long q3), none, some (.long (q2 - q2 / q3 * q3)), none]) dX12_lowest_39 (Nat.le_of_ble_eq_true rfl) rfl ?_
      refine AW.lload dX12_lowest_41 rfl ?_
      refine AW.lstore (ls' := [some (.long p1), none, some (.long p2), none, some (.int p3), some (.long q3), none, some (.long q3), none, some (.long (q2 - q2 / q3 * q3)), none]) dX12_lowest_43 (Nat.le_of_ble_eq_true rfl) rfl ?_
      refine AW.lload dX12_lowest_45 rfl ?_
      refine AW.lstore (ls' := [some (.long p1), none, some (.long p2), none, some (.int p3), some (.long q3), none, some (.long (q2 - q2 / q3 * q3)), none, some (.long (q2 - q2 / q3 * q3)), none]) dX12_lowest_47 (Nat.le_of_ble_eq_true rfl) rfl ?_
      refine AW.goto (tgt := 27) dX12_lowest_49 (by decide) ?_
      exact AW.weak _ (by exact (And.intro rfl (And.intro rfl (And.intro rfl (And.intro rfl (And.intro rfl trivial)))))) (ih q3 (q2 - q2 / q3 * q3) hf hE)
def f_X12_lowest (N : Nat) (ρ : Rh) (I : Nat → Nat → Int32) (J : Nat → Nat → Int64) (p1 : Int64) (p2 : Int64) (p3 : Int32) : Option (Int64) := (if (p1 = (0 : Int64)) then some (p3.toInt64) else (((if ((0 : Int64) ≤ p1) then some p1 else some (-p1)) : Option (Int64)).bind fun j1 => ((f_X12_lowest_27 N I J ρ p1 p2 p3 N j1 p2).bind fun j5 => (((if (p3 = (0 : Int32)) then some p1 else some p2) : Option (Int64)).bind fun j6 => (if ¬ j5 = 0 then some (j6 / j5) else none)))))
theorem c_X12_lowest {G : Gd} {d N : Nat} {K : Ah → Option Value → Prop} {ρ : Rh} {I : Nat → Nat → Int32} {J : Nat → Nat → Int64} {p1 : Int64} {p2 : Int64} {p3 : Int32} {o : Int64} (hs : Sh ρ) (hf : f_X12_lowest N ρ I J p1 p2 p3 = some o) (hK : K (I, J, ρ) (some (.long o))) : AM G d 0 0 mX12_lowest [.long p1, .long p2, .int p3] (I, J, ρ) K := by
  unfold f_X12_lowest at hf
  refine AM.intro okX12_lowest.2.2.2.1 (Nat.le_of_ble_eq_true rfl) [some (.long p1), none, some (.long p2), none, some (.int p3), none, none, none, none, none, none] rfl ?_
  refine AW.lload_n dX12_lowest_0 rfl ?_
  refine AW.lconst (v := (0 : Int64)) dX12_lowest_1 (by decide) ?_
  refine AW.lcmp dX12_lowest_2 ?_
  refine AW.if_ne (tgt := 10) dX12_lowest_3 (by decide) (fun hc => ?_) (fun hc => ?_)
  · have hc : ¬ (p1 = (0 : Int64)) := fun z => hc ((lc_eq _ _).mpr z); have hf := (if_neg hc).symm.trans hf
    refine AW.lload_n dX12_lowest_10 rfl ?_
    refine AW.lconst (v := (0 : Int64)) dX12_lowest_11 (by decide) ?_
    refine AW.lcmp dX12_lowest_12 ?_
    obtain ⟨j1, gj1, hf⟩ := ob_split hf
    have Kj1 : AW G mX12_lowest d 0 0 K 22 [some (.long p1), none, some (.long p2), none, some (.int p3), none, none, none, none, none, none] [.long j1] (I, J, ρ) := by
      refine AW.lstore (ls' := [some (.long p1), none, some (.long p2), none, some (.int p3), some (.long j1), none, none, none, none, none]) dX12_lowest_22 (Nat.le_of_ble_eq_true rfl) rfl ?_
      refine AW.lload_n dX12_lowest_24 rfl ?_
      refine AW.lstore (ls' := [some (.long p1), none, some (.long p2), none, some (.int p3), some (.long j1), none, some (.long p2), none, none, none]) dX12_lowest_25 (Nat.le_of_ble_eq_true rfl) rfl ?_
      obtain ⟨j5, gj5, hf⟩ := ob_split hf
      refine AW.weak _ (by exact (And.intro rfl (And.intro rfl (And.intro rfl (And.intro rfl (And.intro rfl trivial)))))) (l_X12_lowest_27 hs N j1 p2 gj5 ?_)
      show AW G mX12_lowest d 0 0 K 52 [some (.long p1), none, some (.long p2), none, some (.int p3), some (.long j5), none, none, none, none, none] [] (I, J, ρ)
      refine AW.iload dX12_lowest_52 rfl ?_
      obtain ⟨j6, gj6, hf⟩ := ob_split hf
      have Kj6 : AW G mX12_lowest d 0 0 K 62 [none, none, none, none, none, some (.long j5), none, none, none, none, none] [.long j6] (I, J, ρ) := by
        refine AW.lload dX12_lowest_62 rfl ?_
        obtain ⟨h7, hf⟩ := gd_split hf
        refine AW.ldiv (hne := h7) dX12_lowest_64 ?_
        obtain rfl := Option.some.inj hf
        exact AW.lret (st := []) dX12_lowest_65 rfl hK
      clear hf; have hf := gj6; clear gj6
      refine AW.if_ne (tgt := 61) dX12_lowest_54 (by decide) (fun hc => ?_) (fun hc => ?_)
      · have hf := (if_neg hc).symm.trans hf
        refine AW.lload_n dX12_lowest_61 rfl ?_
        obtain rfl := Option.some.inj hf
        exact AW.weak _ (by exact (And.intro rfl trivial)) Kj6
      · have hf := (if_pos hc).symm.trans hf
        refine AW.lload_n dX12_lowest_57 rfl ?_
        refine AW.goto (tgt := 62) dX12_lowest_58 (by decide) ?_
        obtain rfl := Option.some.inj hf
        exact AW.weak _ (by exact (And.intro rfl trivial)) Kj6
    clear hf; have hf := gj1; clear gj1
    refine AW.if_ge (tgt := 21) dX12_lowest_13 (by decide) (fun hc => ?_) (fun hc => ?_)
    · have hc : ((0 : Int64) ≤ p1) := (lc_ge _ _).mp hc; have hf := (if_pos hc).symm.trans hf
      refine AW.lload_n dX12_lowest_21 rfl ?_
      obtain rfl := Option.some.inj hf
      exact AW.weak _ (by exact (And.intro rfl (And.intro rfl (And.intro rfl trivial)))) Kj1
    · have hc : ¬ ((0 : Int64) ≤ p1) := fun z => hc ((lc_ge _ _).mpr z); have hf := (if_neg hc).symm.trans hf
      refine AW.lload_n dX12_lowest_16 rfl ?_
      refine AW.lneg dX12_lowest_17 ?_
      refine AW.goto (tgt := 22) dX12_lowest_18 (by decide) ?_
      obtain rfl := Option.some.inj hf
      exact AW.weak _ (by exact (And.intro rfl (And.intro rfl (And.intro rfl trivial)))) Kj1
  · have hc : (p1 = (0 : Int64)) := (lc_eq _ _).mp hc; have hf := (if_pos hc).symm.trans hf
    refine AW.iload dX12_lowest_6 rfl ?_
    refine AW.i2l dX12_lowest_8 ?_
    obtain rfl := Option.some.inj hf
    exact AW.lret (st := []) dX12_lowest_9 rfl hK
def f_X12_home (N : Nat) (ρ : Rh) (I : Nat → Nat → Int32) (J : Nat → Nat → Int64) (p1 : Int32) (p2 : Int32) (p3 : Int32) : Option ((Nat → Nat → Int32) × Int64) := (Option.bind (f_X12_isRule N ρ I J p1) fun v1 => (if (v1 = (0 : Int32)) then some (I, (-4611686018427387904 : Int64)) else (Option.bind (f_X12_isMan N ρ I J p2) fun v2 => (if (v2 = (0 : Int32)) then some (I, (-4611686018427387904 : Int64)) else (Option.bind (f_X12_in N ρ I J p3 (0 : Int32) (1 : Int32)) fun v3 => (if (v3 = (0 : Int32)) then some (I, (-4611686018427387904 : Int64)) else (Option.bind (f_X12_goesPlain N ρ I J p1) fun v4 => (Option.bind (f_X12_homeOf N ρ v4 J p2) fun v5 => (Option.bind (f_X12_below N ρ v4 J) fun v6 => (Option.bind (f_X12_lowest N ρ v4 J v5 v6 p3) fun v7 => some (v4, v7)))))))))))
theorem c_X12_home {G : Gd} {d N : Nat} {K : Ah → Option Value → Prop} {ρ : Rh} {I : Nat → Nat → Int32} {J : Nat → Nat → Int64} {p1 : Int32} {p2 : Int32} {p3 : Int32} {o : (Nat → Nat → Int32) × Int64} (hs : Sh ρ) (hf : f_X12_home N ρ I J p1 p2 p3 = some o) (hK : K (o.1, J, ρ) (some (.long o.2))) : AM G (d + 4) 0 0 mX12_home [.ref 89, .int p1, .int p2, .int p3] (I, J, ρ) K := by
  unfold f_X12_home at hf
  refine AM.intro okX12_home.2.2.2.1 (Nat.le_of_ble_eq_true rfl) [some (.ref 89), some (.int p1), some (.int p2), some (.int p3)] rfl ?_
  refine AW.aload_n dX12_home_0 rfl ?_
  refine AW.iload_n dX12_home_1 rfl ?_
  obtain ⟨v1, gv1, hf⟩ := ob_split hf
  refine TW.invv (as := [.int p1]) (rest := []) viX12_154_12 hs.k89 dX12_home_2 rfl rfl (Nat.le_of_ble_eq_true rfl) (c_X12_isRule hs gv1 ?_)
  show AW G mX12_home (d + 4) 0 0 K 5 [some (.ref 89), some (.int p1), some (.int p2), some (.int p3)] [.int v1] (I, J, ρ)
  refine AW.if_eq (tgt := 25) dX12_home_5 (by decide) (fun hc => ?_) (fun hc => ?_)
  · have hf := (if_pos hc).symm.trans hf
    refine AW.ldc2 dX12_home_25 kcX12_251 ?_
    obtain rfl := Option.some.inj hf
    exact AW.lret (st := []) dX12_home_28 rfl hK
  · have hf := (if_neg hc).symm.trans hf
    refine AW.aload_n dX12_home_8 rfl ?_
    refine AW.iload_n dX12_home_9 rfl ?_
    obtain ⟨v2, gv2, hf⟩ := ob_split hf
    refine TW.invv (as := [.int p2]) (rest := []) viX12_140_12 hs.k89 dX12_home_10 rfl rfl (Nat.le_of_ble_eq_true rfl) (c_X12_isMan hs gv2 ?_)
    show AW G mX12_home (d + 4) 0 0 K 13 [some (.ref 89), some (.int p1), some (.int p2), some (.int p3)] [.int v2] (I, J, ρ)
    refine AW.if_eq (tgt := 25) dX12_home_13 (by decide) (fun hc => ?_) (fun hc => ?_)
    · have hf := (if_pos hc).symm.trans hf
      refine AW.ldc2 dX12_home_25 kcX12_251 ?_
      obtain rfl := Option.some.inj hf
      exact AW.lret (st := []) dX12_home_28 rfl hK
    · have hf := (if_neg hc).symm.trans hf
      refine AW.iload_n dX12_home_16 rfl ?_
      refine AW.iconst (v := (0 : Int32)) dX12_home_17 (by decide) ?_
      refine AW.iconst (v := (1 : Int32)) dX12_home_18 (by decide) ?_
      obtain ⟨v3, gv3, hf⟩ := ob_split hf
      refine TW.invs (as := [.int p3, .int (0 : Int32), .int (1 : Int32)]) (rest := []) stX12_133 dX12_home_19 rfl rfl (Nat.le_of_ble_eq_true rfl) (c_X12_in hs gv3 ?_)
      show AW G mX12_home (d + 4) 0 0 K 22 [some (.ref 89), some (.int p1), some (.int p2), some (.int p3)] [.int v3] (I, J, ρ)
      refine AW.if_ne (tgt := 29) dX12_home_22 (by decide) (fun hc => ?_) (fun hc => ?_)
      · have hf := (if_neg hc).symm.trans hf
        refine AW.aload_n dX12_home_29 rfl ?_
        refine AW.iload_n dX12_home_30 rfl ?_
        obtain ⟨v4, gv4, hf⟩ := ob_split hf
        refine TW.invv (as := [.int p1]) (rest := []) viX12_253_12 hs.k89 dX12_home_31 rfl rfl (Nat.le_of_ble_eq_true rfl) (c_X12_goesPlain hs gv4 ?_)
        show AW G mX12_home (d + 4) 0 0 K 34 [some (.ref 89), some (.int p1), some (.int p2), some (.int p3)] [] (v4, J, ρ)
        refine AW.aload_n dX12_home_34 rfl ?_
        refine AW.iload_n dX12_home_35 rfl ?_
        obtain ⟨v5, gv5, hf⟩ := ob_split hf
        refine TW.invv (as := [.int p2]) (rest := []) viX12_256_12 hs.k89 dX12_home_36 rfl rfl (Nat.le_of_ble_eq_true rfl) (c_X12_homeOf hs gv5 ?_)
        show AW G mX12_home (d + 4) 0 0 K 39 [some (.ref 89), some (.int p1), some (.int p2), some (.int p3)] [.long v5] (v4, J, ρ)
        refine AW.aload_n dX12_home_39 rfl ?_
        obtain ⟨v6, gv6, hf⟩ := ob_split hf
        refine TW.invv (as := []) (rest := [.long v5]) viX12_248_12 hs.k89 dX12_home_40 rfl rfl (Nat.le_of_ble_eq_true rfl) (c_X12_below hs gv6 ?_)
        show AW G mX12_home (d + 4) 0 0 K 43 [some (.ref 89), some (.int p1), some (.int p2), some (.int p3)] [.long v6, .long v5] (v4, J, ρ)
        refine AW.iload_n dX12_home_43 rfl ?_
        obtain ⟨v7, gv7, hf⟩ := ob_split hf
        refine TW.invs (as := [.long v5, .long v6, .int p3]) (rest := []) stX12_260 dX12_home_44 rfl rfl (Nat.le_of_ble_eq_true rfl) (c_X12_lowest hs gv7 ?_)
        show AW G mX12_home (d + 4) 0 0 K 47 [some (.ref 89), some (.int p1), some (.int p2), some (.int p3)] [.long v7] (v4, J, ρ)
        obtain rfl := Option.some.inj hf
        exact AW.lret (st := []) dX12_home_47 rfl hK
      · have hf := (if_pos hc).symm.trans hf
        refine AW.ldc2 dX12_home_25 kcX12_251 ?_
        obtain rfl := Option.some.inj hf
        exact AW.lret (st := []) dX12_home_28 rfl hK
def f_X12_meanOf_13 (N : Nat) (I : Nat → Nat → Int32) (J : Nat → Nat → Int64) (ρ : Rh) (p2 : Int32) : Nat → Int64 → Int64 → Int32 → Option (Int64 × Int64)
  | 0, _, _, _ => none
  | n + 1, q2, q3, i4 => (if ((I 89 0) ≤ i4) then some (q2, q3) else (Option.bind (f_X12_homeOf N ρ I J i4) fun v5 => (((if (i4 = (0 : Int32)) then some v5 else (if (q3 ≤ v5) then some q3 else some v5)) : Option (Int64)).bind fun j6 => f_X12_meanOf_13 N I J ρ p2 n (q2 + v5) j6 (i4 + (1 : Int32)))))
theorem l_X12_meanOf_13 {G : Gd} {d N : Nat} {K : Ah → Option Value → Prop} {I : Nat → Nat → Int32} {J : Nat → Nat → Int64} {ρ : Rh} {p2 : Int32} (hs : Sh ρ) {o : Int64 × Int64} : ∀ (n : Nat) (q2 : Int64) (q3 : Int64) (i4 : Int32), f_X12_meanOf_13 N I J ρ p2 n q2 q3 i4 = some o → AW G mX12_meanOf (d + 4) 0 0 K 63 [none, none, some (.int p2), some (.long o.1), none, some (.long o.2), none, none, none, none] [] (I, J, ρ) → AW G mX12_meanOf (d + 4) 0 0 K 13 [some (.ref 89), none, some (.int p2), some (.long q2), none, some (.long q3), none, some (.int i4), none, none] [] (I, J, ρ) := by
  intro n
  induction n with
  | zero => intro q2 q3 i4 hf hE; rw [f_X12_meanOf_13.eq_1] at hf; cases hf
  | succ n ih =>
    intro q2 q3 i4 hf hE
    rw [f_X12_meanOf_13.eq_2] at hf
    refine AW.iload dX12_meanOf_13 rfl ?_
    refine AW.aload_n dX12_meanOf_15 rfl ?_
    refine TW.getI (x := (I 89 0)) fX12_130_12 hs.k89 rfl dX12_meanOf_16 ?_
    refine AW.icmp_ge (tgt := 63) dX12_meanOf_19 (by decide) (fun hc => ?_) (fun hc => ?_)
    · have hf := (if_pos hc).symm.trans hf
      obtain rfl := Option.some.inj hf
      exact AW.weak _ (by exact (And.intro rfl (And.intro rfl (And.intro rfl trivial)))) hE
    · have hf := (if_neg hc).symm.trans hf
      refine AW.aload_n dX12_meanOf_22 rfl ?_
      refine AW.iload dX12_meanOf_23 rfl ?_
      obtain ⟨v5, gv5, hf⟩ := ob_split hf
      refine TW.invv (as := [.int i4]) (rest := []) viX12_256_12 hs.k89 dX12_meanOf_25 rfl rfl (Nat.le_of_ble_eq_true rfl) (c_X12_homeOf hs gv5 ?_)
      show AW G mX12_meanOf (d + 4) 0 0 K 28 [some (.ref 89), none, some (.int p2), some (.long q2), none, some (.long q3), none, some (.int i4), none, none] [.long v5] (I, J, ρ)
      refine AW.lstore (ls' := [some (.ref 89), none, some (.int p2), some (.long q2), none, some (.long q3), none, some (.int i4), some (.long v5), none]) dX12_meanOf_28 (Nat.le_of_ble_eq_true rfl) rfl ?_
      refine AW.lload_n dX12_meanOf_30 rfl ?_
      refine AW.lload dX12_meanOf_31 rfl ?_
      refine AW.ladd dX12_meanOf_33 ?_
      refine AW.lstore_n (ls' := [some (.ref 89), none, some (.int p2), some (.long (q2 + v5)), none, some (.long q3), none, some (.int i4), some (.long v5), none]) dX12_meanOf_34 (Nat.le_of_ble_eq_true rfl) rfl ?_
      refine AW.iload dX12_meanOf_35 rfl ?_
      obtain ⟨j6, gj6, hf⟩ := ob_split hf
      have Kj6 : AW G mX12_meanOf (d + 4) 0 0 K 55 [some (.ref 89), none, some (.int p2), some (.long (q2 + v5)), none, none, none, some (.int i4), none, none] [.long j6] (I, J, ρ) := by
        refine AW.lstore (ls' := [some (.ref 89), none, some (.int p2), some (.long (q2 + v5)), none, some (.long j6), none, some (.int i4), none, none]) dX12_meanOf_55 (Nat.le_of_ble_eq_true rfl) rfl ?_
        refine AW.iinc (v := (i4 + (1 : Int32))) (ls' := [some (.ref 89), none, some (.int p2), some (.long (q2 + v5)), none, some (.long j6), none, some (.int (i4 + (1 : Int32))), none, none]) dX12_meanOf_57 rfl rfl (Nat.le_of_ble_eq_true rfl) rfl ?_
        refine AW.goto (tgt := 13) dX12_meanOf_60 (by decide) ?_
        exact AW.weak _ (by exact (And.intro rfl (And.intro rfl (And.intro rfl (And.intro rfl (And.intro rfl trivial)))))) (ih (q2 + v5) j6 (i4 + (1 : Int32)) hf hE)
      clear hf; have hf := gj6; clear gj6
      refine AW.if_eq (tgt := 48) dX12_meanOf_37 (by decide) (fun hc => ?_) (fun hc => ?_)
      · have hf := (if_pos hc).symm.trans hf
        refine AW.lload dX12_meanOf_48 rfl ?_
        refine AW.goto (tgt := 55) dX12_meanOf_50 (by decide) ?_
        obtain rfl := Option.some.inj hf
        exact AW.weak _ (by exact (And.intro rfl (And.intro rfl (And.intro rfl (And.intro rfl trivial))))) Kj6
      · have hf := (if_neg hc).symm.trans hf
        refine AW.lload dX12_meanOf_40 rfl ?_
        refine AW.lload dX12_meanOf_42 rfl ?_
        refine AW.lcmp dX12_meanOf_44 ?_
        refine AW.if_ge (tgt := 53) dX12_meanOf_45 (by decide) (fun hc => ?_) (fun hc => ?_)
        · have hc : (q3 ≤ v5) := (lc_ge _ _).mp hc; have hf := (if_pos hc).symm.trans hf
          refine AW.lload dX12_meanOf_53 rfl ?_
          obtain rfl := Option.some.inj hf
          exact AW.weak _ (by exact (And.intro rfl (And.intro rfl (And.intro rfl (And.intro rfl trivial))))) Kj6
        · have hc : ¬ (q3 ≤ v5) := fun z => hc ((lc_ge _ _).mpr z); have hf := (if_neg hc).symm.trans hf
          refine AW.lload dX12_meanOf_48 rfl ?_
          refine AW.goto (tgt := 55) dX12_meanOf_50 (by decide) ?_
          obtain rfl := Option.some.inj hf
          exact AW.weak _ (by exact (And.intro rfl (And.intro rfl (And.intro rfl (And.intro rfl trivial))))) Kj6
def f_X12_meanOf (N : Nat) (ρ : Rh) (I : Nat → Nat → Int32) (J : Nat → Nat → Int64) (p1 : Int32) (p2 : Int32) : Option ((Nat → Nat → Int32) × Int64) := (Option.bind (f_X12_goesPlain N ρ I J p1) fun v1 => ((f_X12_meanOf_13 N v1 J ρ p2 N (0 : Int64) (0 : Int64) (0 : Int32)).bind fun j7 => (if (p2 = (0 : Int32)) then some (v1, j7.1) else some (v1, j7.2))))
theorem c_X12_meanOf {G : Gd} {d N : Nat} {K : Ah → Option Value → Prop} {ρ : Rh} {I : Nat → Nat → Int32} {J : Nat → Nat → Int64} {p1 : Int32} {p2 : Int32} {o : (Nat → Nat → Int32) × Int64} (hs : Sh ρ) (hf : f_X12_meanOf N ρ I J p1 p2 = some o) (hK : K (o.1, J, ρ) (some (.long o.2))) : AM G (d + 4) 0 0 mX12_meanOf [.ref 89, .int p1, .int p2] (I, J, ρ) K := by
  unfold f_X12_meanOf at hf
  refine AM.intro okX12_meanOf.2.2.2.1 (Nat.le_of_ble_eq_true rfl) [some (.ref 89), some (.int p1), some (.int p2), none, none, none, none, none, none, none] rfl ?_
  refine AW.aload_n dX12_meanOf_0 rfl ?_
  refine AW.iload_n dX12_meanOf_1 rfl ?_
  obtain ⟨v1, gv1, hf⟩ := ob_split hf
  refine TW.invv (as := [.int p1]) (rest := []) viX12_253_12 hs.k89 dX12_meanOf_2 rfl rfl (Nat.le_of_ble_eq_true rfl) (c_X12_goesPlain hs gv1 ?_)
  show AW G mX12_meanOf (d + 4) 0 0 K 5 [some (.ref 89), some (.int p1), some (.int p2), none, none, none, none, none, none, none] [] (v1, J, ρ)
  refine AW.lconst (v := (0 : Int64)) dX12_meanOf_5 (by decide) ?_
  refine AW.lstore_n (ls' := [some (.ref 89), some (.int p1), some (.int p2), some (.long (0 : Int64)), none, none, none, none, none, none]) dX12_meanOf_6 (Nat.le_of_ble_eq_true rfl) rfl ?_
  refine AW.lconst (v := (0 : Int64)) dX12_meanOf_7 (by decide) ?_
  refine AW.lstore (ls' := [some (.ref 89), some (.int p1), some (.int p2), some (.long (0 : Int64)), none, some (.long (0 : Int64)), none, none, none, none]) dX12_meanOf_8 (Nat.le_of_ble_eq_true rfl) rfl ?_
  refine AW.iconst (v := (0 : Int32)) dX12_meanOf_10 (by decide) ?_
  refine AW.istore (ls' := [some (.ref 89), some (.int p1), some (.int p2), some (.long (0 : Int64)), none, some (.long (0 : Int64)), none, some (.int (0 : Int32)), none, none]) dX12_meanOf_11 (Nat.le_of_ble_eq_true rfl) rfl ?_
  obtain ⟨j7, gj7, hf⟩ := ob_split hf
  refine AW.weak _ (by exact (And.intro rfl (And.intro rfl (And.intro rfl (And.intro rfl (And.intro rfl trivial)))))) (l_X12_meanOf_13 hs N (0 : Int64) (0 : Int64) (0 : Int32) gj7 ?_)
  show AW G mX12_meanOf (d + 4) 0 0 K 63 [none, none, some (.int p2), some (.long j7.1), none, some (.long j7.2), none, none, none, none] [] (v1, J, ρ)
  refine AW.iload_n dX12_meanOf_63 rfl ?_
  refine AW.if_ne (tgt := 71) dX12_meanOf_64 (by decide) (fun hc => ?_) (fun hc => ?_)
  · have hf := (if_neg hc).symm.trans hf
    refine AW.lload dX12_meanOf_71 rfl ?_
    obtain rfl := Option.some.inj hf
    exact AW.lret (st := []) dX12_meanOf_73 rfl hK
  · have hf := (if_pos hc).symm.trans hf
    refine AW.lload_n dX12_meanOf_67 rfl ?_
    refine AW.goto (tgt := 73) dX12_meanOf_68 (by decide) ?_
    obtain rfl := Option.some.inj hf
    exact AW.lret (st := []) dX12_meanOf_73 rfl hK
def f_X12_mean (N : Nat) (ρ : Rh) (I : Nat → Nat → Int32) (J : Nat → Nat → Int64) (p1 : Int32) (p2 : Int32) (p3 : Int32) : Option ((Nat → Nat → Int32) × Int64) := (Option.bind (f_X12_isRule N ρ I J p1) fun v1 => (if (v1 = (0 : Int32)) then some (I, (-4611686018427387904 : Int64)) else (Option.bind (f_X12_in N ρ I J p2 (0 : Int32) (1 : Int32)) fun v2 => (if (v2 = (0 : Int32)) then some (I, (-4611686018427387904 : Int64)) else (Option.bind (f_X12_in N ρ I J p3 (0 : Int32) (1 : Int32)) fun v3 => (if (v3 = (0 : Int32)) then some (I, (-4611686018427387904 : Int64)) else (Option.bind (f_X12_meanOf N ρ I J p1 p2) fun v4 => (Option.bind (f_X12_below N ρ v4.1 J) fun v5 => (Option.bind (f_X12_lowest N ρ v4.1 J v4.2 v5 p3) fun v6 => some (v4.1, v6))))))))))
theorem c_X12_mean {G : Gd} {d N : Nat} {K : Ah → Option Value → Prop} {ρ : Rh} {I : Nat → Nat → Int32} {J : Nat → Nat → Int64} {p1 : Int32} {p2 : Int32} {p3 : Int32} {o : (Nat → Nat → Int32) × Int64} (hs : Sh ρ) (hf : f_X12_mean N ρ I J p1 p2 p3 = some o) (hK : K (o.1, J, ρ) (some (.long o.2))) : AM G (d + 5) 0 0 mX12_mean [.ref 89, .int p1, .int p2, .int p3] (I, J, ρ) K := by
  unfold f_X12_mean at hf
  refine AM.intro okX12_mean.2.2.2.1 (Nat.le_of_ble_eq_true rfl) [some (.ref 89), some (.int p1), some (.int p2), some (.int p3)] rfl ?_
  refine AW.aload_n dX12_mean_0 rfl ?_
  refine AW.iload_n dX12_mean_1 rfl ?_
  obtain ⟨v1, gv1, hf⟩ := ob_split hf
  refine TW.invv (as := [.int p1]) (rest := []) viX12_154_12 hs.k89 dX12_mean_2 rfl rfl (Nat.le_of_ble_eq_true rfl) (c_X12_isRule hs gv1 ?_)
  show AW G mX12_mean (d + 5) 0 0 K 5 [some (.ref 89), some (.int p1), some (.int p2), some (.int p3)] [.int v1] (I, J, ρ)
  refine AW.if_eq (tgt := 43) dX12_mean_5 (by decide) (fun hc => ?_) (fun hc => ?_)
  · have hf := (if_pos hc).symm.trans hf
    refine AW.ldc2 dX12_mean_43 kcX12_251 ?_
    obtain rfl := Option.some.inj hf
    exact AW.lret (st := []) dX12_mean_46 rfl hK
  · have hf := (if_neg hc).symm.trans hf
    refine AW.iload_n dX12_mean_8 rfl ?_
    refine AW.iconst (v := (0 : Int32)) dX12_mean_9 (by decide) ?_
    refine AW.iconst (v := (1 : Int32)) dX12_mean_10 (by decide) ?_
    obtain ⟨v2, gv2, hf⟩ := ob_split hf
    refine TW.invs (as := [.int p2, .int (0 : Int32), .int (1 : Int32)]) (rest := []) stX12_133 dX12_mean_11 rfl rfl (Nat.le_of_ble_eq_true rfl) (c_X12_in hs gv2 ?_)
    show AW G mX12_mean (d + 5) 0 0 K 14 [some (.ref 89), some (.int p1), some (.int p2), some (.int p3)] [.int v2] (I, J, ρ)
    refine AW.if_eq (tgt := 43) dX12_mean_14 (by decide) (fun hc => ?_) (fun hc => ?_)
    · have hf := (if_pos hc).symm.trans hf
      refine AW.ldc2 dX12_mean_43 kcX12_251 ?_
      obtain rfl := Option.some.inj hf
      exact AW.lret (st := []) dX12_mean_46 rfl hK
    · have hf := (if_neg hc).symm.trans hf
      refine AW.iload_n dX12_mean_17 rfl ?_
      refine AW.iconst (v := (0 : Int32)) dX12_mean_18 (by decide) ?_
      refine AW.iconst (v := (1 : Int32)) dX12_mean_19 (by decide) ?_
      obtain ⟨v3, gv3, hf⟩ := ob_split hf
      refine TW.invs (as := [.int p3, .int (0 : Int32), .int (1 : Int32)]) (rest := []) stX12_133 dX12_mean_20 rfl rfl (Nat.le_of_ble_eq_true rfl) (c_X12_in hs gv3 ?_)
      show AW G mX12_mean (d + 5) 0 0 K 23 [some (.ref 89), some (.int p1), some (.int p2), some (.int p3)] [.int v3] (I, J, ρ)
      refine AW.if_eq (tgt := 43) dX12_mean_23 (by decide) (fun hc => ?_) (fun hc => ?_)
      · have hf := (if_pos hc).symm.trans hf
        refine AW.ldc2 dX12_mean_43 kcX12_251 ?_
        obtain rfl := Option.some.inj hf
        exact AW.lret (st := []) dX12_mean_46 rfl hK
      · have hf := (if_neg hc).symm.trans hf
        refine AW.aload_n dX12_mean_26 rfl ?_
        refine AW.iload_n dX12_mean_27 rfl ?_
        refine AW.iload_n dX12_mean_28 rfl ?_
        obtain ⟨v4, gv4, hf⟩ := ob_split hf
        refine TW.invv (as := [.int p1, .int p2]) (rest := []) viX12_264_12 hs.k89 dX12_mean_29 rfl rfl (Nat.le_of_ble_eq_true rfl) (c_X12_meanOf hs gv4 ?_)
        show AW G mX12_mean (d + 5) 0 0 K 32 [some (.ref 89), some (.int p1), some (.int p2), some (.int p3)] [.long v4.2] (v4.1, J, ρ)
        refine AW.aload_n dX12_mean_32 rfl ?_
        obtain ⟨v5, gv5, hf⟩ := ob_split hf
        refine TW.invv (as := []) (rest := [.long v4.2]) viX12_248_12 hs.k89 dX12_mean_33 rfl rfl (Nat.le_of_ble_eq_true rfl) (c_X12_below hs gv5 ?_)
        show AW G mX12_mean (d + 5) 0 0 K 36 [some (.ref 89), some (.int p1), some (.int p2), some (.int p3)] [.long v5, .long v4.2] (v4.1, J, ρ)
        refine AW.iload_n dX12_mean_36 rfl ?_
        obtain ⟨v6, gv6, hf⟩ := ob_split hf
        refine TW.invs (as := [.long v4.2, .long v5, .int p3]) (rest := []) stX12_260 dX12_mean_37 rfl rfl (Nat.le_of_ble_eq_true rfl) (c_X12_lowest hs gv6 ?_)
        show AW G mX12_mean (d + 5) 0 0 K 40 [some (.ref 89), some (.int p1), some (.int p2), some (.int p3)] [.long v6] (v4.1, J, ρ)
        refine AW.goto (tgt := 46) dX12_mean_40 (by decide) ?_
        obtain rfl := Option.some.inj hf
        exact AW.lret (st := []) dX12_mean_46 rfl hK
def f_X12_told (N : Nat) (ρ : Rh) (I : Nat → Nat → Int32) (J : Nat → Nat → Int64) (p1 : Int32) (p2 : Int32) (p3 : Int32) (p4 : Int32) : Option ((Nat → Nat → Int32) × Int32) := (Option.bind (f_X12_isRule N ρ I J p1) fun v1 => (if (v1 = (0 : Int32)) then some (I, (-5 : Int32)) else (Option.bind (f_X12_in N ρ I J p2 (0 : Int32) (I 89 3)) fun v2 => (if (v2 = (0 : Int32)) then some (I, (-5 : Int32)) else (Option.bind (f_X12_isMan N ρ I J p3) fun v3 => (if (v3 = (0 : Int32)) then some (I, (-5 : Int32)) else (Option.bind (f_X12_in N ρ I J p4 (0 : Int32) (3 : Int32)) fun v4 => (if (v4 = (0 : Int32)) then some (I, (-7 : Int32)) else (((if (p4 = (1 : Int32)) then (if (p2 = (I 89 3)) then some (Sum.inl (I, (-7 : Int32))) else some (Sum.inr ())) else some (Sum.inr ())) : Option (((Nat → Nat → Int32) × Int32) ⊕ (Unit))).bind fun j5 => scase j5 (fun r => some r) (fun j5 => (Option.bind (f_X12_goesPlain N ρ I J p1) fun v6 => (if (p4 = (0 : Int32)) then (if ¬ ((((8 : Int32) * p2) + p3) < 0 ∨ 104 ≤ tn (((8 : Int32) * p2) + p3)) then some (v6, (v6 100 (tn (((8 : Int32) * p2) + p3)))) else none) else (if (p4 = (1 : Int32)) then (if ¬ ((((8 : Int32) * p2) + p3) < 0 ∨ 96 ≤ tn (((8 : Int32) * p2) + p3)) then some (v6, (v6 101 (tn (((8 : Int32) * p2) + p3)))) else none) else (if (p4 = (2 : Int32)) then (if ¬ (p2 < 0 ∨ 13 ≤ tn p2) then some (v6, (v6 102 (tn p2))) else none) else (if ¬ (p2 < 0 ∨ 13 ≤ tn p2) then some (v6, (v6 103 (tn p2))) else none)))))))))))))))
theorem c_X12_told {G : Gd} {d N : Nat} {K : Ah → Option Value → Prop} {ρ : Rh} {I : Nat → Nat → Int32} {J : Nat → Nat → Int64} {p1 : Int32} {p2 : Int32} {p3 : Int32} {p4 : Int32} {o : (Nat → Nat → Int32) × Int32} (hs : Sh ρ) (hf : f_X12_told N ρ I J p1 p2 p3 p4 = some o) (hK : K (o.1, J, ρ) (some (.int o.2))) : AM G (d + 4) 0 0 mX12_told [.ref 89, .int p1, .int p2, .int p3, .int p4] (I, J, ρ) K := by
  unfold f_X12_told at hf
  refine AM.intro okX12_told.2.2.2.1 (Nat.le_of_ble_eq_true rfl) [some (.ref 89), some (.int p1), some (.int p2), some (.int p3), some (.int p4)] rfl ?_
  refine AW.aload_n dX12_told_0 rfl ?_
  refine AW.iload_n dX12_told_1 rfl ?_
  obtain ⟨v1, gv1, hf⟩ := ob_split hf
  refine TW.invv (as := [.int p1]) (rest := []) viX12_154_12 hs.k89 dX12_told_2 rfl rfl (Nat.le_of_ble_eq_true rfl) (c_X12_isRule hs gv1 ?_)
  show AW G mX12_told (d + 4) 0 0 K 5 [some (.ref 89), some (.int p1), some (.int p2), some (.int p3), some (.int p4)] [.int v1] (I, J, ρ)
  refine AW.if_eq (tgt := 28) dX12_told_5 (by decide) (fun hc => ?_) (fun hc => ?_)
  · have hf := (if_pos hc).symm.trans hf
    refine AW.bipush (v := (-5 : Int32)) dX12_told_28 (by decide) ?_
    obtain rfl := Option.some.inj hf
    exact AW.iret (st := []) dX12_told_30 rfl hK
  · have hf := (if_neg hc).symm.trans hf
    refine AW.iload_n dX12_told_8 rfl ?_
    refine AW.iconst (v := (0 : Int32)) dX12_told_9 (by decide) ?_
    refine AW.aload_n dX12_told_10 rfl ?_
    refine TW.getI (x := (I 89 3)) fX12_16_12 hs.k89 rfl dX12_told_11 ?_
    obtain ⟨v2, gv2, hf⟩ := ob_split hf
    refine TW.invs (as := [.int p2, .int (0 : Int32), .int (I 89 3)]) (rest := []) stX12_133 dX12_told_14 rfl rfl (Nat.le_of_ble_eq_true rfl) (c_X12_in hs gv2 ?_)
    show AW G mX12_told (d + 4) 0 0 K 17 [some (.ref 89), some (.int p1), some (.int p2), some (.int p3), some (.int p4)] [.int v2] (I, J, ρ)
    refine AW.if_eq (tgt := 28) dX12_told_17 (by decide) (fun hc => ?_) (fun hc => ?_)
    · have hf := (if_pos hc).symm.trans hf
      refine AW.bipush (v := (-5 : Int32)) dX12_told_28 (by decide) ?_
      obtain rfl := Option.some.inj hf
      exact AW.iret (st := []) dX12_told_30 rfl hK
    · have hf := (if_neg hc).symm.trans hf
      refine AW.aload_n dX12_told_20 rfl ?_
      refine AW.iload_n dX12_told_21 rfl ?_
      obtain ⟨v3, gv3, hf⟩ := ob_split hf
      refine TW.invv (as := [.int p3]) (rest := []) viX12_140_12 hs.k89 dX12_told_22 rfl rfl (Nat.le_of_ble_eq_true rfl) (c_X12_isMan hs gv3 ?_)
      show AW G mX12_told (d + 4) 0 0 K 25 [some (.ref 89), some (.int p1), some (.int p2), some (.int p3), some (.int p4)] [.int v3] (I, J, ρ)
      refine AW.if_ne (tgt := 31) dX12_told_25 (by decide) (fun hc => ?_) (fun hc => ?_)
      · have hf := (if_neg hc).symm.trans hf
        refine AW.iload dX12_told_31 rfl ?_
        refine AW.iconst (v := (0 : Int32)) dX12_told_33 (by decide) ?_
        refine AW.iconst (v := (3 : Int32)) dX12_told_34 (by decide) ?_
        obtain ⟨v4, gv4, hf⟩ := ob_split hf
        refine TW.invs (as := [.int p4, .int (0 : Int32), .int (3 : Int32)]) (rest := []) stX12_133 dX12_told_35 rfl rfl (Nat.le_of_ble_eq_true rfl) (c_X12_in hs gv4 ?_)
        show AW G mX12_told (d + 4) 0 0 K 38 [some (.ref 89), some (.int p1), some (.int p2), some (.int p3), some (.int p4)] [.int v4] (I, J, ρ)
        refine AW.if_eq (tgt := 55) dX12_told_38 (by decide) (fun hc => ?_) (fun hc => ?_)
        · have hf := (if_pos hc).symm.trans hf
          refine AW.bipush (v := (-7 : Int32)) dX12_told_55 (by decide) ?_
          obtain rfl := Option.some.inj hf
          exact AW.iret (st := []) dX12_told_57 rfl hK
        · have hf := (if_neg hc).symm.trans hf
          refine AW.iload dX12_told_41 rfl ?_
          refine AW.iconst (v := (1 : Int32)) dX12_told_43 (by decide) ?_
          obtain ⟨j5, gj5, hf⟩ := ob_split hf
          have Kj5 : scase j5 (fun r => K (r.1, J, ρ) (some (.int r.2))) (fun j5 => AW G mX12_told (d + 4) 0 0 K 58 [some (.ref 89), some (.int p1), some (.int p2), some (.int p3), some (.int p4)] [] (I, J, ρ)) := by
            rcases j5 with r | j5
            · obtain rfl := Option.some.inj hf; exact hK
            · show AW G mX12_told (d + 4) 0 0 K 58 [some (.ref 89), some (.int p1), some (.int p2), some (.int p3), some (.int p4)] [] (I, J, ρ)
              refine AW.aload_n dX12_told_58 rfl ?_
              refine AW.iload_n dX12_told_59 rfl ?_
              obtain ⟨v6, gv6, hf⟩ := ob_split hf
              refine TW.invv (as := [.int p1]) (rest := []) viX12_253_12 hs.k89 dX12_told_60 rfl rfl (Nat.le_of_ble_eq_true rfl) (c_X12_goesPlain hs gv6 ?_)
              show AW G mX12_told (d + 4) 0 0 K 63 [some (.ref 89), some (.int p1), some (.int p2), some (.int p3), some (.int p4)] [] (v6, J, ρ)
              refine AW.iload dX12_told_63 rfl ?_
              refine AW.if_ne (tgt := 82) dX12_told_65 (by decide) (fun hc => ?_) (fun hc => ?_)
              · have hf := (if_neg hc).symm.trans hf
                refine AW.iload dX12_told_82 rfl ?_
                refine AW.iconst (v := (1 : Int32)) dX12_told_84 (by decide) ?_
                refine AW.icmp_ne (tgt := 102) dX12_told_85 (by decide) (fun hc => ?_) (fun hc => ?_)
                · have hf := (if_neg hc).symm.trans hf
                  refine AW.iload dX12_told_102 rfl ?_
                  refine AW.iconst (v := (2 : Int32)) dX12_told_104 (by decide) ?_
                  refine AW.icmp_ne (tgt := 117) dX12_told_105 (by decide) (fun hc => ?_) (fun hc => ?_)
                  · have hf := (if_neg hc).symm.trans hf
                    refine AW.aload_n dX12_told_117 rfl ?_
                    refine TW.getR fX12_65_12 hs.k89 (rf_some hs.r89_22) dX12_told_118 ?_
                    refine AW.iload_n dX12_told_121 rfl ?_
                    obtain ⟨h7, hf⟩ := gd_split hf
                    refine TW.iald (x := (v6 103 (tn p2))) hs.k103 h7 rfl dX12_told_122 ?_
                    obtain rfl := Option.some.inj hf
                    exact AW.iret (st := []) dX12_told_123 rfl hK
                  · have hf := (if_pos hc).symm.trans hf
                    refine AW.aload_n dX12_told_108 rfl ?_
                    refine TW.getR fX12_62_12 hs.k89 (rf_some hs.r89_21) dX12_told_109 ?_
                    refine AW.iload_n dX12_told_112 rfl ?_
                    obtain ⟨h8, hf⟩ := gd_split hf
                    refine TW.iald (x := (v6 102 (tn p2))) hs.k102 h8 rfl dX12_told_113 ?_
                    refine AW.goto (tgt := 123) dX12_told_114 (by decide) ?_
                    obtain rfl := Option.some.inj hf
                    exact AW.iret (st := []) dX12_told_123 rfl hK
                · have hf := (if_pos hc).symm.trans hf
                  refine AW.aload_n dX12_told_88 rfl ?_
                  refine TW.getR fX12_59_12 hs.k89 (rf_some hs.r89_20) dX12_told_89 ?_
                  refine AW.bipush (v := (8 : Int32)) dX12_told_92 (by decide) ?_
                  refine AW.iload_n dX12_told_94 rfl ?_
                  refine AW.imul dX12_told_95 ?_
                  refine AW.iload_n dX12_told_96 rfl ?_
                  refine AW.iadd dX12_told_97 ?_
                  obtain ⟨h9, hf⟩ := gd_split hf
                  refine TW.iald (x := (v6 101 (tn (((8 : Int32) * p2) + p3)))) hs.k101 h9 rfl dX12_told_98 ?_
                  refine AW.goto (tgt := 123) dX12_told_99 (by decide) ?_
                  obtain rfl := Option.some.inj hf
                  exact AW.iret (st := []) dX12_told_123 rfl hK
              · have hf := (if_pos hc).symm.trans hf
                refine AW.aload_n dX12_told_68 rfl ?_
                refine TW.getR fX12_56_12 hs.k89 (rf_some hs.r89_19) dX12_told_69 ?_
                refine AW.bipush (v := (8 : Int32)) dX12_told_72 (by decide) ?_
                refine AW.iload_n dX12_told_74 rfl ?_
                refine AW.imul dX12_told_75 ?_
                refine AW.iload_n dX12_told_76 rfl ?_
                refine AW.iadd dX12_told_77 ?_
                obtain ⟨h10, hf⟩ := gd_split hf
                refine TW.iald (x := (v6 100 (tn (((8 : Int32) * p2) + p3)))) hs.k100 h10 rfl dX12_told_78 ?_
                refine AW.goto (tgt := 123) dX12_told_79 (by decide) ?_
                obtain rfl := Option.some.inj hf
                exact AW.iret (st := []) dX12_told_123 rfl hK
          clear hf; have hf := gj5; clear gj5
          refine AW.icmp_ne (tgt := 58) dX12_told_44 (by decide) (fun hc => ?_) (fun hc => ?_)
          · have hf := (if_neg hc).symm.trans hf
            obtain rfl := Option.some.inj hf
            exact AW.weak _ (by exact (And.intro rfl (And.intro rfl (And.intro rfl (And.intro rfl (And.intro rfl trivial)))))) Kj5
          · have hf := (if_pos hc).symm.trans hf
            refine AW.iload_n dX12_told_47 rfl ?_
            refine AW.aload_n dX12_told_48 rfl ?_
            refine TW.getI (x := (I 89 3)) fX12_16_12 hs.k89 rfl dX12_told_49 ?_
            refine AW.icmp_ne (tgt := 58) dX12_told_52 (by decide) (fun hc => ?_) (fun hc => ?_)
            · have hf := (if_neg hc).symm.trans hf
              obtain rfl := Option.some.inj hf
              exact AW.weak _ (by exact (And.intro rfl (And.intro rfl (And.intro rfl (And.intro rfl (And.intro rfl trivial)))))) Kj5
            · have hf := (if_pos hc).symm.trans hf
              refine AW.bipush (v := (-7 : Int32)) dX12_told_55 (by decide) ?_
              obtain rfl := Option.some.inj hf
              exact AW.iret (st := []) dX12_told_57 rfl Kj5
      · have hf := (if_pos hc).symm.trans hf
        refine AW.bipush (v := (-5 : Int32)) dX12_told_28 (by decide) ?_
        obtain rfl := Option.some.inj hf
        exact AW.iret (st := []) dX12_told_30 rfl hK
def f_X12_ends_55 (N : Nat) (I : Nat → Nat → Int32) (J : Nat → Nat → Int64) (ρ : Rh) : Nat → Int32 → Option (((Nat → Nat → Int32) × Int32) ⊕ (Unit))
  | 0, _ => none
  | n + 1, i5 => (if ((I 89 3) ≤ i5) then some (Sum.inr ()) else (Option.bind (f_X12_living N ρ I J (i5 + (1 : Int32))) fun v6 => (Option.bind (f_X12_living N ρ I J i5) fun v7 => (if (v7 ≤ v6) then f_X12_ends_55 N I J ρ n (i5 + (1 : Int32)) else some (Sum.inl (I, i5))))))
theorem l_X12_ends_55 {G : Gd} {d N : Nat} {K : Ah → Option Value → Prop} {I : Nat → Nat → Int32} {J : Nat → Nat → Int64} {ρ : Rh} (hs : Sh ρ) {o : ((Nat → Nat → Int32) × Int32) ⊕ (Unit)} : ∀ (n : Nat) (i5 : Int32), f_X12_ends_55 N I J ρ n i5 = some o → scase o (fun r => K (r.1, J, ρ) (some (.int r.2))) (fun o => AW G mX12_ends (d + 4) 0 0 K 86 [none, none, none, none] [] (I, J, ρ)) → AW G mX12_ends (d + 4) 0 0 K 55 [some (.ref 89), none, none, some (.int i5)] [] (I, J, ρ) := by
  intro n
  induction n with
  | zero => intro i5 hf hE; rw [f_X12_ends_55.eq_1] at hf; cases hf
  | succ n ih =>
    intro i5 hf hE
    rw [f_X12_ends_55.eq_2] at hf
    refine AW.iload_n dX12_ends_55 rfl ?_
    refine AW.aload_n dX12_ends_56 rfl ?_
    refine TW.getI (x := (I 89 3)) fX12_16_12 hs.k89 rfl dX12_ends_57 ?_
    refine AW.icmp_ge (tgt := 86) dX12_ends_60 (by decide) (fun hc => ?_) (fun hc => ?_)
    · have hf := (if_pos hc).symm.trans hf
      obtain rfl := Option.some.inj hf
      exact AW.weak _ (by exact trivial) hE
    · have hf := (if_neg hc).symm.trans hf
      refine AW.aload_n dX12_ends_63 rfl ?_
      refine AW.iload_n dX12_ends_64 rfl ?_
      refine AW.iconst (v := (1 : Int32)) dX12_ends_65 (by decide) ?_
      refine AW.iadd dX12_ends_66 ?_
      obtain ⟨v6, gv6, hf⟩ := ob_split hf
      refine TW.invv (as := [.int (i5 + (1 : Int32))]) (rest := []) viX12_225_12 hs.k89 dX12_ends_67 rfl rfl (Nat.le_of_ble_eq_true rfl) (c_X12_living hs gv6 ?_)
      show AW G mX12_ends (d + 4) 0 0 K 70 [some (.ref 89), none, none, some (.int i5)] [.int v6] (I, J, ρ)
      refine AW.aload_n dX12_ends_70 rfl ?_
      refine AW.iload_n dX12_ends_71 rfl ?_
      obtain ⟨v7, gv7, hf⟩ := ob_split hf
      refine TW.invv (as := [.int i5]) (rest := [.int v6]) viX12_225_12 hs.k89 dX12_ends_72 rfl rfl (Nat.le_of_ble_eq_true rfl) (c_X12_living hs gv7 ?_)
      show AW G mX12_ends (d + 4) 0 0 K 75 [some (.ref 89), none, none, some (.int i5)] [.int v7, .int v6] (I, J, ρ)
      refine AW.icmp_ge (tgt := 80) dX12_ends_75 (by decide) (fun hc => ?_) (fun hc => ?_)
      · have hf := (if_pos hc).symm.trans hf
        refine AW.iinc (v := (i5 + (1 : Int32))) (ls' := [some (.ref 89), none, none, some (.int (i5 + (1 : Int32)))]) dX12_ends_80 rfl rfl (Nat.le_of_ble_eq_true rfl) rfl ?_
        refine AW.goto (tgt := 55) dX12_ends_83 (by decide) ?_
        exact AW.weak _ (by exact (And.intro rfl (And.intro rfl trivial))) (ih (i5 + (1 : Int32)) hf hE)
      · have hf := (if_neg hc).symm.trans hf
        refine AW.iload_n dX12_ends_78 rfl ?_
        obtain rfl := Option.some.inj hf
        exact AW.iret (st := []) dX12_ends_79 rfl hE
def f_X12_ends (N : Nat) (ρ : Rh) (I : Nat → Nat → Int32) (J : Nat → Nat → Int64) (p1 : Int32) (p2 : Int32) : Option ((Nat → Nat → Int32) × Int32) := (Option.bind (f_X12_isRule N ρ I J p1) fun v1 => (if (v1 = (0 : Int32)) then some (I, (-5 : Int32)) else (Option.bind (f_X12_in N ρ I J p2 (0 : Int32) (2 : Int32)) fun v2 => (if (v2 = (0 : Int32)) then some (I, (-7 : Int32)) else (Option.bind (f_X12_goesPlain N ρ I J p1) fun v3 => (if ((2 : Int32) ≤ p2) then ((f_X12_ends_55 N v3 J ρ N (0 : Int32)).bind fun j8 => scase j8 (fun r => some r) (fun j8 => some (v3, (-1 : Int32)))) else (if (p2 = (0 : Int32)) then some (v3, (v3 89 23)) else (Option.bind (f_X12_living N ρ v3 J (v3 89 3)) fun v4 => some (v3, v4)))))))))
theorem c_X12_ends {G : Gd} {d N : Nat} {K : Ah → Option Value → Prop} {ρ : Rh} {I : Nat → Nat → Int32} {J : Nat → Nat → Int64} {p1 : Int32} {p2 : Int32} {o : (Nat → Nat → Int32) × Int32} (hs : Sh ρ) (hf : f_X12_ends N ρ I J p1 p2 = some o) (hK : K (o.1, J, ρ) (some (.int o.2))) : AM G (d + 4) 0 0 mX12_ends [.ref 89, .int p1, .int p2] (I, J, ρ) K := by
  unfold f_X12_ends at hf
  refine AM.intro okX12_ends.2.2.2.1 (Nat.le_of_ble_eq_true rfl) [some (.ref 89), some (.int p1), some (.int p2), none] rfl ?_
  refine AW.aload_n dX12_ends_0 rfl ?_
  refine AW.iload_n dX12_ends_1 rfl ?_
  obtain ⟨v1, gv1, hf⟩ := ob_split hf
  refine TW.invv (as := [.int p1]) (rest := []) viX12_154_12 hs.k89 dX12_ends_2 rfl rfl (Nat.le_of_ble_eq_true rfl) (c_X12_isRule hs gv1 ?_)
  show AW G mX12_ends (d + 4) 0 0 K 5 [some (.ref 89), some (.int p1), some (.int p2), none] [.int v1] (I, J, ρ)
  refine AW.if_ne (tgt := 11) dX12_ends_5 (by decide) (fun hc => ?_) (fun hc => ?_)
  · have hf := (if_neg hc).symm.trans hf
    refine AW.iload_n dX12_ends_11 rfl ?_
    refine AW.iconst (v := (0 : Int32)) dX12_ends_12 (by decide) ?_
    refine AW.iconst (v := (2 : Int32)) dX12_ends_13 (by decide) ?_
    obtain ⟨v2, gv2, hf⟩ := ob_split hf
    refine TW.invs (as := [.int p2, .int (0 : Int32), .int (2 : Int32)]) (rest := []) stX12_133 dX12_ends_14 rfl rfl (Nat.le_of_ble_eq_true rfl) (c_X12_in hs gv2 ?_)
    show AW G mX12_ends (d + 4) 0 0 K 17 [some (.ref 89), some (.int p1), some (.int p2), none] [.int v2] (I, J, ρ)
    refine AW.if_ne (tgt := 23) dX12_ends_17 (by decide) (fun hc => ?_) (fun hc => ?_)
    · have hf := (if_neg hc).symm.trans hf
      refine AW.aload_n dX12_ends_23 rfl ?_
      refine AW.iload_n dX12_ends_24 rfl ?_
      obtain ⟨v3, gv3, hf⟩ := ob_split hf
      refine TW.invv (as := [.int p1]) (rest := []) viX12_253_12 hs.k89 dX12_ends_25 rfl rfl (Nat.le_of_ble_eq_true rfl) (c_X12_goesPlain hs gv3 ?_)
      show AW G mX12_ends (d + 4) 0 0 K 28 [some (.ref 89), some (.int p1), some (.int p2), none] [] (v3, J, ρ)
      refine AW.iload_n dX12_ends_28 rfl ?_
      refine AW.iconst (v := (2 : Int32)) dX12_ends_29 (by decide) ?_
      refine AW.icmp_ge (tgt := 53) dX12_ends_30 (by decide) (fun hc => ?_) (fun hc => ?_)
      · have hf := (if_pos hc).symm.trans hf
        refine AW.iconst (v := (0 : Int32)) dX12_ends_53 (by decide) ?_
        refine AW.istore_n (ls' := [some (.ref 89), some (.int p1), some (.int p2), some (.int (0 : Int32))]) dX12_ends_54 (Nat.le_of_ble_eq_true rfl) rfl ?_
        obtain ⟨j8, gj8, hf⟩ := ob_split hf
        refine AW.weak _ (by exact (And.intro rfl (And.intro rfl trivial))) (l_X12_ends_55 hs N (0 : Int32) gj8 ?_)
        rcases j8 with r | j8
        · obtain rfl := Option.some.inj hf; exact hK
        · show AW G mX12_ends (d + 4) 0 0 K 86 [none, none, none, none] [] (v3, J, ρ)
          refine AW.iconst (v := (-1 : Int32)) dX12_ends_86 (by decide) ?_
          obtain rfl := Option.some.inj hf
          exact AW.iret (st := []) dX12_ends_87 rfl hK
      · have hf := (if_neg hc).symm.trans hf
        refine AW.iload_n dX12_ends_33 rfl ?_
        refine AW.if_ne (tgt := 44) dX12_ends_34 (by decide) (fun hc => ?_) (fun hc => ?_)
        · have hf := (if_neg hc).symm.trans hf
          refine AW.aload_n dX12_ends_44 rfl ?_
          refine AW.aload_n dX12_ends_45 rfl ?_
          refine TW.getI (x := (v3 89 3)) fX12_16_12 hs.k89 rfl dX12_ends_46 ?_
          obtain ⟨v4, gv4, hf⟩ := ob_split hf
          refine TW.invv (as := [.int (v3 89 3)]) (rest := []) viX12_225_12 hs.k89 dX12_ends_49 rfl rfl (Nat.le_of_ble_eq_true rfl) (c_X12_living hs gv4 ?_)
          show AW G mX12_ends (d + 4) 0 0 K 52 [some (.ref 89), some (.int p1), some (.int p2), none] [.int v4] (v3, J, ρ)
          obtain rfl := Option.some.inj hf
          exact AW.iret (st := []) dX12_ends_52 rfl hK
        · have hf := (if_pos hc).symm.trans hf
          refine AW.aload_n dX12_ends_37 rfl ?_
          refine TW.getI (x := (v3 89 23)) fX12_222_12 hs.k89 rfl dX12_ends_38 ?_
          refine AW.goto (tgt := 52) dX12_ends_41 (by decide) ?_
          obtain rfl := Option.some.inj hf
          exact AW.iret (st := []) dX12_ends_52 rfl hK
    · have hf := (if_pos hc).symm.trans hf
      refine AW.bipush (v := (-7 : Int32)) dX12_ends_20 (by decide) ?_
      obtain rfl := Option.some.inj hf
      exact AW.iret (st := []) dX12_ends_22 rfl hK
  · have hf := (if_pos hc).symm.trans hf
    refine AW.bipush (v := (-5 : Int32)) dX12_ends_8 (by decide) ?_
    obtain rfl := Option.some.inj hf
    exact AW.iret (st := []) dX12_ends_10 rfl hK
