/-! ===== methods 13.class 4 ===== -/
def f_X10_sail (N : Nat) (ρ : Rh) (I : Nat → Nat → Int32) (J : Nat → Nat → Int64) (p1 : Nat) : Option ((Nat → Nat → Int32) × (Nat → Nat → Int64) × (Rh)) := (Option.bind (f_X10_sailAs N ρ I J p1 (I 45 2) (255 : Int32) (-1 : Int32) (0 : Int32)) fun v1 => some (v1.1, v1.2.1, v1.2.2))
theorem c_X10_sail {G : Gd} {d N : Nat} {K : Ah → Option Value → Prop} {ρ : Rh} {I : Nat → Nat → Int32} {J : Nat → Nat → Int64} {p1 : Nat} {o : (Nat → Nat → Int32) × (Nat → Nat → Int64) × (Rh)} (hs : Sh ρ) (hf : f_X10_sail N ρ I J p1 = some o) (hK : (Sh o.2.2 → K (o.1, o.2.1, o.2.2) none)) : AM G (d + 5) 0 0 mX10_sail [.ref 48, .ref p1] (I, J, ρ) K := by
  unfold f_X10_sail at hf
  refine AM.intro okX10_sail.2.2.2.1 (Nat.le_of_ble_eq_true rfl) [some (.ref 48), some (.ref p1)] rfl ?_
  refine AW.aload_n dX10_sail_0 rfl ?_
  refine AW.aload_n dX10_sail_1 rfl ?_
  refine AW.aload_n dX10_sail_2 rfl ?_
  refine TW.getR fX10_36_10 hs.k48 (rf_some hs.r48_0) dX10_sail_3 ?_
  refine TW.getR fX10_40_0 hs.k42 (rf_some hs.r42_3) dX10_sail_6 ?_
  refine AW.iconst (v := (2 : Int32)) dX10_sail_9 (by decide) ?_
  refine TW.iald (x := (I 45 2)) hs.k45 (show ¬ ((2 : Int32) < 0 ∨ 4 ≤ (2 : Int32).toNatClampNeg) by decide) rfl dX10_sail_10 ?_
  refine AW.sipush (v := (255 : Int32)) dX10_sail_11 (by decide) ?_
  refine AW.iconst (v := (-1 : Int32)) dX10_sail_14 (by decide) ?_
  refine AW.iconst (v := (0 : Int32)) dX10_sail_15 (by decide) ?_
  obtain ⟨v1, gv1, hf⟩ := ob_split hf
  refine TW.invv (as := [.ref p1, .int (I 45 2), .int (255 : Int32), .int (-1 : Int32), .int (0 : Int32)]) (rest := []) viX10_45_10 hs.k48 dX10_sail_16 rfl rfl (Nat.le_of_ble_eq_true rfl) (c_X10_sailAs hs gv1 (fun hs => ?_))
  show AW G mX10_sail (d + 5) 0 0 K 19 [some (.ref 48), some (.ref p1)] [] (v1.1, v1.2.1, v1.2.2)
  obtain rfl := Option.some.inj hf
  exact AW.vret (st := []) dX10_sail_19 rfl ((show Sh v1.2.2 → _ from hK) hs)
def f_X10_worth_24 (N : Nat) (I : Nat → Nat → Int32) (J : Nat → Nat → Int64) (ρ : Rh) (p1 : Int32) : Nat → Int64 → Int64 → Int32 → Option (Int64 × Int64)
  | 0, _, _, _ => none
  | n + 1, q2, q3, i4 => (if ((I 42 0) ≤ i4) then some (q2, q3) else (if ¬ (i4 < 0 ∨ 8 ≤ tn i4) then (if ¬ (i4 < 0 ∨ 8 ≤ tn i4) then (bnd (if (J 78 (tn i4)) < q3 then (J 78 (tn i4)) else q3) fun y7 => f_X10_worth_24 N I J ρ p1 n (q2 + (J 78 (tn i4))) y7 (i4 + (1 : Int32))) else none) else none))
theorem l_X10_worth_24 {G : Gd} {d N : Nat} {K : Ah → Option Value → Prop} {I : Nat → Nat → Int32} {J : Nat → Nat → Int64} {ρ : Rh} {p1 : Int32} (hs : Sh ρ) {o : Int64 × Int64} : ∀ (n : Nat) (q2 : Int64) (q3 : Int64) (i4 : Int32), f_X10_worth_24 N I J ρ p1 n q2 q3 i4 = some o → AW G mX10_worth (d + 1) 0 0 K 66 [none, some (.int p1), some (.long o.1), none, some (.long o.2), none, none] [] (I, J, ρ) → AW G mX10_worth (d + 1) 0 0 K 24 [some (.ref 48), some (.int p1), some (.long q2), none, some (.long q3), none, some (.int i4)] [] (I, J, ρ) := by
  intro n
  induction n with
  | zero => intro q2 q3 i4 hf hE; rw [f_X10_worth_24.eq_1] at hf; cases hf
  | succ n ih =>
    intro q2 q3 i4 hf hE
    rw [f_X10_worth_24.eq_2] at hf
    refine AW.iload dX10_worth_24 rfl ?_
    refine AW.aload_n dX10_worth_26 rfl ?_
    refine TW.getR fX10_36_10 hs.k48 (rf_some hs.r48_0) dX10_worth_27 ?_
    refine TW.getI (x := (I 42 0)) fX10_111_0 hs.k42 rfl dX10_worth_30 ?_
    refine AW.icmp_ge (tgt := 66) dX10_worth_33 (by decide) (fun hc => ?_) (fun hc => ?_)
    · have hf := (if_pos hc).symm.trans hf
      obtain rfl := Option.some.inj hf
      exact AW.weak _ (by exact (And.intro rfl (And.intro rfl (And.intro rfl trivial)))) hE
    · have hf := (if_neg hc).symm.trans hf
      refine AW.lload_n dX10_worth_36 rfl ?_
      refine AW.aload_n dX10_worth_37 rfl ?_
      refine TW.getR fX10_26_10 hs.k48 (rf_some hs.r48_5) dX10_worth_38 ?_
      refine AW.iload dX10_worth_41 rfl ?_
      obtain ⟨h5, hf⟩ := gd_split hf
      refine TW.lald (x := (J 78 (tn i4))) hs.k78 h5 rfl dX10_worth_43 ?_
      refine AW.ladd dX10_worth_44 ?_
      refine AW.lstore_n (ls' := [some (.ref 48), some (.int p1), some (.long (q2 + (J 78 (tn i4)))), none, some (.long q3), none, some (.int i4)]) dX10_worth_45 (Nat.le_of_ble_eq_true rfl) rfl ?_
      refine AW.lload dX10_worth_46 rfl ?_
      refine AW.aload_n dX10_worth_48 rfl ?_
      refine TW.getR fX10_26_10 hs.k48 (rf_some hs.r48_5) dX10_worth_49 ?_
      refine AW.iload dX10_worth_52 rfl ?_
      obtain ⟨h6, hf⟩ := gd_split hf
      refine TW.lald (x := (J 78 (tn i4))) hs.k78 h6 rfl dX10_worth_54 ?_
      refine AW.mminL mtX10_180 dX10_worth_55 (Nat.le_of_ble_eq_true rfl) ?_
      obtain ⟨y7, gy7, hf⟩ := bnd_one hf
      refine AW.nmJ gy7 ?_
      refine AW.lstore (ls' := [some (.ref 48), some (.int p1), some (.long (q2 + (J 78 (tn i4)))), none, some (.long y7), none, some (.int i4)]) dX10_worth_58 (Nat.le_of_ble_eq_true rfl) rfl ?_
      refine AW.iinc (v := (i4 + (1 : Int32))) (ls' := [some (.ref 48), some (.int p1), some (.long (q2 + (J 78 (tn i4)))), none, some (.long y7), none, some (.int (i4 + (1 : Int32)))]) dX10_worth_60 rfl rfl (Nat.le_of_ble_eq_true rfl) rfl ?_
      refine AW.goto (tgt := 24) dX10_worth_63 (by decide) ?_
      exact AW.weak _ (by exact (And.intro rfl (And.intro rfl (And.intro rfl (And.intro rfl (And.intro rfl trivial)))))) (ih (q2 + (J 78 (tn i4))) y7 (i4 + (1 : Int32)) hf hE)
def f_X10_worth (N : Nat) (ρ : Rh) (I : Nat → Nat → Int32) (J : Nat → Nat → Int64) (p1 : Int32) : Option (Int64) := (((if ((I 42 0) ≤ (0 : Int32)) then some (0 : Int64) else some (1000000000000 : Int64)) : Option (Int64)).bind fun j1 => ((f_X10_worth_24 N I J ρ p1 N (0 : Int64) j1 (0 : Int32)).bind fun j8 => (if (p1 = (0 : Int32)) then some j8.1 else some j8.2)))
theorem c_X10_worth {G : Gd} {d N : Nat} {K : Ah → Option Value → Prop} {ρ : Rh} {I : Nat → Nat → Int32} {J : Nat → Nat → Int64} {p1 : Int32} {o : Int64} (hs : Sh ρ) (hf : f_X10_worth N ρ I J p1 = some o) (hK : K (I, J, ρ) (some (.long o))) : AM G (d + 1) 0 0 mX10_worth [.ref 48, .int p1] (I, J, ρ) K := by
  unfold f_X10_worth at hf
  refine AM.intro okX10_worth.2.2.2.1 (Nat.le_of_ble_eq_true rfl) [some (.ref 48), some (.int p1), none, none, none, none, none] rfl ?_
  refine AW.lconst (v := (0 : Int64)) dX10_worth_0 (by decide) ?_
  refine AW.lstore_n (ls' := [some (.ref 48), some (.int p1), some (.long (0 : Int64)), none, none, none, none]) dX10_worth_1 (Nat.le_of_ble_eq_true rfl) rfl ?_
  refine AW.aload_n dX10_worth_2 rfl ?_
  refine TW.getR fX10_36_10 hs.k48 (rf_some hs.r48_0) dX10_worth_3 ?_
  refine TW.getI (x := (I 42 0)) fX10_111_0 hs.k42 rfl dX10_worth_6 ?_
  obtain ⟨j1, gj1, hf⟩ := ob_split hf
  have Kj1 : AW G mX10_worth (d + 1) 0 0 K 19 [some (.ref 48), some (.int p1), some (.long (0 : Int64)), none, none, none, none] [.long j1] (I, J, ρ) := by
    refine AW.lstore (ls' := [some (.ref 48), some (.int p1), some (.long (0 : Int64)), none, some (.long j1), none, none]) dX10_worth_19 (Nat.le_of_ble_eq_true rfl) rfl ?_
    refine AW.iconst (v := (0 : Int32)) dX10_worth_21 (by decide) ?_
    refine AW.istore (ls' := [some (.ref 48), some (.int p1), some (.long (0 : Int64)), none, some (.long j1), none, some (.int (0 : Int32))]) dX10_worth_22 (Nat.le_of_ble_eq_true rfl) rfl ?_
    obtain ⟨j8, gj8, hf⟩ := ob_split hf
    refine AW.weak _ (by exact (And.intro rfl (And.intro rfl (And.intro rfl (And.intro rfl (And.intro rfl trivial)))))) (l_X10_worth_24 hs N (0 : Int64) j1 (0 : Int32) gj8 ?_)
    show AW G mX10_worth (d + 1) 0 0 K 66 [none, some (.int p1), some (.long j8.1), none, some (.long j8.2), none, none] [] (I, J, ρ)
    refine AW.iload_n dX10_worth_66 rfl ?_
    refine AW.if_ne (tgt := 74) dX10_worth_67 (by decide) (fun hc => ?_) (fun hc => ?_)
    · have hf := (if_neg hc).symm.trans hf
      refine AW.lload dX10_worth_74 rfl ?_
      obtain rfl := Option.some.inj hf
      exact AW.lret (st := []) dX10_worth_76 rfl hK
    · have hf := (if_pos hc).symm.trans hf
      refine AW.lload_n dX10_worth_70 rfl ?_
      refine AW.goto (tgt := 76) dX10_worth_71 (by decide) ?_
      obtain rfl := Option.some.inj hf
      exact AW.lret (st := []) dX10_worth_76 rfl hK
  clear hf; have hf := gj1; clear gj1
  refine AW.if_le (tgt := 18) dX10_worth_9 (by decide) (fun hc => ?_) (fun hc => ?_)
  · have hf := (if_pos hc).symm.trans hf
    refine AW.lconst (v := (0 : Int64)) dX10_worth_18 (by decide) ?_
    obtain rfl := Option.some.inj hf
    exact AW.weak _ (by exact (And.intro rfl (And.intro rfl (And.intro rfl trivial)))) Kj1
  · have hf := (if_neg hc).symm.trans hf
    refine AW.ldc2 dX10_worth_12 kcX10_165 ?_
    refine AW.goto (tgt := 19) dX10_worth_15 (by decide) ?_
    obtain rfl := Option.some.inj hf
    exact AW.weak _ (by exact (And.intro rfl (And.intro rfl (And.intro rfl trivial)))) Kj1
def f_X10_firstDeath_2 (N : Nat) (I : Nat → Nat → Int32) (J : Nat → Nat → Int64) (ρ : Rh) : Nat → Int32 → Option ((Int32) ⊕ (Unit))
  | 0, _ => none
  | n + 1, i1 => (if ((I 45 0) ≤ i1) then some (Sum.inr ()) else (Option.bind (f_X10_living N ρ I J (i1 + (1 : Int32))) fun v2 => (Option.bind (f_X10_living N ρ I J i1) fun v3 => (if (v3 ≤ v2) then f_X10_firstDeath_2 N I J ρ n (i1 + (1 : Int32)) else some (Sum.inl i1)))))
theorem l_X10_firstDeath_2 {G : Gd} {d N : Nat} {K : Ah → Option Value → Prop} {I : Nat → Nat → Int32} {J : Nat → Nat → Int64} {ρ : Rh} (hs : Sh ρ) {o : (Int32) ⊕ (Unit)} : ∀ (n : Nat) (i1 : Int32), f_X10_firstDeath_2 N I J ρ n i1 = some o → scase o (fun r => K (I, J, ρ) (some (.int r))) (fun o => AW G mX10_firstDeath (d + 1) 0 0 K 38 [none, none] [] (I, J, ρ)) → AW G mX10_firstDeath (d + 1) 0 0 K 2 [some (.ref 48), some (.int i1)] [] (I, J, ρ) := by
  intro n
  induction n with
  | zero => intro i1 hf hE; rw [f_X10_firstDeath_2.eq_1] at hf; cases hf
  | succ n ih =>
    intro i1 hf hE
    rw [f_X10_firstDeath_2.eq_2] at hf
    refine AW.iload_n dX10_firstDeath_2 rfl ?_
    refine AW.aload_n dX10_firstDeath_3 rfl ?_
    refine TW.getR fX10_36_10 hs.k48 (rf_some hs.r48_0) dX10_firstDeath_4 ?_
    refine TW.getR fX10_40_0 hs.k42 (rf_some hs.r42_3) dX10_firstDeath_7 ?_
    refine AW.iconst (v := (0 : Int32)) dX10_firstDeath_10 (by decide) ?_
    refine TW.iald (x := (I 45 0)) hs.k45 (show ¬ ((0 : Int32) < 0 ∨ 4 ≤ (0 : Int32).toNatClampNeg) by decide) rfl dX10_firstDeath_11 ?_
    refine AW.icmp_ge (tgt := 38) dX10_firstDeath_12 (by decide) (fun hc => ?_) (fun hc => ?_)
    · have hf := (if_pos hc).symm.trans hf
      obtain rfl := Option.some.inj hf
      exact AW.weak _ (by exact trivial) hE
    · have hf := (if_neg hc).symm.trans hf
      refine AW.aload_n dX10_firstDeath_15 rfl ?_
      refine AW.iload_n dX10_firstDeath_16 rfl ?_
      refine AW.iconst (v := (1 : Int32)) dX10_firstDeath_17 (by decide) ?_
      refine AW.iadd dX10_firstDeath_18 ?_
      obtain ⟨v2, gv2, hf⟩ := ob_split hf
      refine TW.invv (as := [.int (i1 + (1 : Int32))]) (rest := []) viX10_83_10 hs.k48 dX10_firstDeath_19 rfl rfl (Nat.le_of_ble_eq_true rfl) (c_X10_living hs gv2 ?_)
      show AW G mX10_firstDeath (d + 1) 0 0 K 22 [some (.ref 48), some (.int i1)] [.int v2] (I, J, ρ)
      refine AW.aload_n dX10_firstDeath_22 rfl ?_
      refine AW.iload_n dX10_firstDeath_23 rfl ?_
      obtain ⟨v3, gv3, hf⟩ := ob_split hf
      refine TW.invv (as := [.int i1]) (rest := [.int v2]) viX10_83_10 hs.k48 dX10_firstDeath_24 rfl rfl (Nat.le_of_ble_eq_true rfl) (c_X10_living hs gv3 ?_)
      show AW G mX10_firstDeath (d + 1) 0 0 K 27 [some (.ref 48), some (.int i1)] [.int v3, .int v2] (I, J, ρ)
      refine AW.icmp_ge (tgt := 32) dX10_firstDeath_27 (by decide) (fun hc => ?_) (fun hc => ?_)
      · have hf := (if_pos hc).symm.trans hf
        refine AW.iinc (v := (i1 + (1 : Int32))) (ls' := [some (.ref 48), some (.int (i1 + (1 : Int32)))]) dX10_firstDeath_32 rfl rfl (Nat.le_of_ble_eq_true rfl) rfl ?_
        refine AW.goto (tgt := 2) dX10_firstDeath_35 (by decide) ?_
        exact AW.weak _ (by exact (And.intro rfl (And.intro rfl trivial))) (ih (i1 + (1 : Int32)) hf hE)
      · have hf := (if_neg hc).symm.trans hf
        refine AW.iload_n dX10_firstDeath_30 rfl ?_
        obtain rfl := Option.some.inj hf
        exact AW.iret (st := []) dX10_firstDeath_31 rfl hE
def f_X10_firstDeath (N : Nat) (ρ : Rh) (I : Nat → Nat → Int32) (J : Nat → Nat → Int64) : Option (Int32) := ((f_X10_firstDeath_2 N I J ρ N (0 : Int32)).bind fun j4 => scase j4 (fun r => some r) (fun j4 => some (-1 : Int32)))
theorem c_X10_firstDeath {G : Gd} {d N : Nat} {K : Ah → Option Value → Prop} {ρ : Rh} {I : Nat → Nat → Int32} {J : Nat → Nat → Int64} {o : Int32} (hs : Sh ρ) (hf : f_X10_firstDeath N ρ I J = some o) (hK : K (I, J, ρ) (some (.int o))) : AM G (d + 1) 0 0 mX10_firstDeath [.ref 48] (I, J, ρ) K := by
  unfold f_X10_firstDeath at hf
  refine AM.intro okX10_firstDeath.2.2.2.1 (Nat.le_of_ble_eq_true rfl) [some (.ref 48), none] rfl ?_
  refine AW.iconst (v := (0 : Int32)) dX10_firstDeath_0 (by decide) ?_
  refine AW.istore_n (ls' := [some (.ref 48), some (.int (0 : Int32))]) dX10_firstDeath_1 (Nat.le_of_ble_eq_true rfl) rfl ?_
  obtain ⟨j4, gj4, hf⟩ := ob_split hf
  refine AW.weak _ (by exact (And.intro rfl (And.intro rfl trivial))) (l_X10_firstDeath_2 hs N (0 : Int32) gj4 ?_)
  rcases j4 with r | j4
  · obtain rfl := Option.some.inj hf; exact hK
  · show AW G mX10_firstDeath (d + 1) 0 0 K 38 [none, none] [] (I, J, ρ)
    refine AW.iconst (v := (-1 : Int32)) dX10_firstDeath_38 (by decide) ?_
    obtain rfl := Option.some.inj hf
    exact AW.iret (st := []) dX10_firstDeath_39 rfl hK
def f_X11_isRows (N : Nat) (ρ : Rh) (I : Nat → Nat → Int32) (J : Nat → Nat → Int64) (p1 : Int32) : Option (Int32) := (if (p1 < (0 : Int32)) then some (0 : Int32) else (if ((9 : Int32) < p1) then some (0 : Int32) else some (1 : Int32)))
theorem c_X11_isRows {G : Gd} {d N : Nat} {K : Ah → Option Value → Prop} {ρ : Rh} {I : Nat → Nat → Int32} {J : Nat → Nat → Int64} {p1 : Int32} {o : Int32} (hs : Sh ρ) (hf : f_X11_isRows N ρ I J p1 = some o) (hK : K (I, J, ρ) (some (.int o))) : AM G d 0 0 mX11_isRows [.int p1] (I, J, ρ) K := by
  unfold f_X11_isRows at hf
  refine AM.intro okX11_isRows.2.2.2.1 (Nat.le_of_ble_eq_true rfl) [some (.int p1)] rfl ?_
  refine AW.iload_n dX11_isRows_0 rfl ?_
  refine AW.if_lt (tgt := 14) dX11_isRows_1 (by decide) (fun hc => ?_) (fun hc => ?_)
  · have hf := (if_pos hc).symm.trans hf
    refine AW.iconst (v := (0 : Int32)) dX11_isRows_14 (by decide) ?_
    obtain rfl := Option.some.inj hf
    exact AW.zret (st := []) dX11_isRows_15 rfl (Or.inl rfl) hK
  · have hf := (if_neg hc).symm.trans hf
    refine AW.iload_n dX11_isRows_4 rfl ?_
    refine AW.bipush (v := (9 : Int32)) dX11_isRows_5 (by decide) ?_
    refine AW.icmp_gt (tgt := 14) dX11_isRows_7 (by decide) (fun hc => ?_) (fun hc => ?_)
    · have hf := (if_pos hc).symm.trans hf
      refine AW.iconst (v := (0 : Int32)) dX11_isRows_14 (by decide) ?_
      obtain rfl := Option.some.inj hf
      exact AW.zret (st := []) dX11_isRows_15 rfl (Or.inl rfl) hK
    · have hf := (if_neg hc).symm.trans hf
      refine AW.iconst (v := (1 : Int32)) dX11_isRows_10 (by decide) ?_
      refine AW.goto (tgt := 15) dX11_isRows_11 (by decide) ?_
      obtain rfl := Option.some.inj hf
      exact AW.zret (st := []) dX11_isRows_15 rfl (Or.inr rfl) hK
def f_X11_isStore (N : Nat) (ρ : Rh) (I : Nat → Nat → Int32) (J : Nat → Nat → Int64) (p1 : Int32) : Option (Int32) := (if (p1 < (1 : Int32)) then some (0 : Int32) else (if ((99 : Int32) < p1) then some (0 : Int32) else some (1 : Int32)))
theorem c_X11_isStore {G : Gd} {d N : Nat} {K : Ah → Option Value → Prop} {ρ : Rh} {I : Nat → Nat → Int32} {J : Nat → Nat → Int64} {p1 : Int32} {o : Int32} (hs : Sh ρ) (hf : f_X11_isStore N ρ I J p1 = some o) (hK : K (I, J, ρ) (some (.int o))) : AM G d 0 0 mX11_isStore [.int p1] (I, J, ρ) K := by
  unfold f_X11_isStore at hf
  refine AM.intro okX11_isStore.2.2.2.1 (Nat.le_of_ble_eq_true rfl) [some (.int p1)] rfl ?_
  refine AW.iload_n dX11_isStore_0 rfl ?_
  refine AW.iconst (v := (1 : Int32)) dX11_isStore_1 (by decide) ?_
  refine AW.icmp_lt (tgt := 15) dX11_isStore_2 (by decide) (fun hc => ?_) (fun hc => ?_)
  · have hf := (if_pos hc).symm.trans hf
    refine AW.iconst (v := (0 : Int32)) dX11_isStore_15 (by decide) ?_
    obtain rfl := Option.some.inj hf
    exact AW.zret (st := []) dX11_isStore_16 rfl (Or.inl rfl) hK
  · have hf := (if_neg hc).symm.trans hf
    refine AW.iload_n dX11_isStore_5 rfl ?_
    refine AW.bipush (v := (99 : Int32)) dX11_isStore_6 (by decide) ?_
    refine AW.icmp_gt (tgt := 15) dX11_isStore_8 (by decide) (fun hc => ?_) (fun hc => ?_)
    · have hf := (if_pos hc).symm.trans hf
      refine AW.iconst (v := (0 : Int32)) dX11_isStore_15 (by decide) ?_
      obtain rfl := Option.some.inj hf
      exact AW.zret (st := []) dX11_isStore_16 rfl (Or.inl rfl) hK
    · have hf := (if_neg hc).symm.trans hf
      refine AW.iconst (v := (1 : Int32)) dX11_isStore_11 (by decide) ?_
      refine AW.goto (tgt := 16) dX11_isStore_12 (by decide) ?_
      obtain rfl := Option.some.inj hf
      exact AW.zret (st := []) dX11_isStore_16 rfl (Or.inr rfl) hK
def f_X11_man (N : Nat) (ρ : Rh) (I : Nat → Nat → Int32) (J : Nat → Nat → Int64) (p1 : Int32) (p2 : Int32) : Option ((Nat → Nat → Int32) × Int32) := (Option.bind (f_X11_isStore N ρ I J p1) fun v1 => (if (v1 = (0 : Int32)) then some (I, (-2 : Int32)) else (Option.bind (f_X11_isRows N ρ I J p2) fun v2 => (if (v2 = (0 : Int32)) then some (I, (-2 : Int32)) else (if ((I 42 0) < (0 : Int32)) then some (I, (-4 : Int32)) else (if ((I 42 0) < (8 : Int32)) then (if ¬ ((I 42 0) < 0 ∨ 8 ≤ tn (I 42 0)) then (if ¬ ((I 42 0) < 0 ∨ 8 ≤ tn (I 42 0)) then some ((u2 (u2 (u2 I 43 (tn (I 42 0)) p1) 44 (tn (I 42 0)) p2) 42 0 ((I 42 0) + (1 : Int32))), (((I 42 0) + (1 : Int32)) - (1 : Int32))) else none) else none) else some (I, (-4 : Int32))))))))
theorem c_X11_man {G : Gd} {d N : Nat} {K : Ah → Option Value → Prop} {ρ : Rh} {I : Nat → Nat → Int32} {J : Nat → Nat → Int64} {p1 : Int32} {p2 : Int32} {o : (Nat → Nat → Int32) × Int32} (hs : Sh ρ) (hf : f_X11_man N ρ I J p1 p2 = some o) (hK : K (o.1, J, ρ) (some (.int o.2))) : AM G (d + 1) 0 0 mX11_man [.ref 32, .int p1, .int p2] (I, J, ρ) K := by
  unfold f_X11_man at hf
  refine AM.intro okX11_man.2.2.2.1 (Nat.le_of_ble_eq_true rfl) [some (.ref 32), some (.int p1), some (.int p2)] rfl ?_
  refine AW.iload_n dX11_man_0 rfl ?_
  obtain ⟨v1, gv1, hf⟩ := ob_split hf
  refine TW.invs (as := [.int p1]) (rest := []) stX11_64 dX11_man_1 rfl rfl (Nat.le_of_ble_eq_true rfl) (c_X11_isStore hs gv1 ?_)
  show AW G mX11_man (d + 1) 0 0 K 4 [some (.ref 32), some (.int p1), some (.int p2)] [.int v1] (I, J, ρ)
  refine AW.if_eq (tgt := 14) dX11_man_4 (by decide) (fun hc => ?_) (fun hc => ?_)
  · have hf := (if_pos hc).symm.trans hf
    refine AW.bipush (v := (-2 : Int32)) dX11_man_14 (by decide) ?_
    obtain rfl := Option.some.inj hf
    exact AW.iret (st := []) dX11_man_16 rfl hK
  · have hf := (if_neg hc).symm.trans hf
    refine AW.iload_n dX11_man_7 rfl ?_
    obtain ⟨v2, gv2, hf⟩ := ob_split hf
    refine TW.invs (as := [.int p2]) (rest := []) stX11_68 dX11_man_8 rfl rfl (Nat.le_of_ble_eq_true rfl) (c_X11_isRows hs gv2 ?_)
    show AW G mX11_man (d + 1) 0 0 K 11 [some (.ref 32), some (.int p1), some (.int p2)] [.int v2] (I, J, ρ)
    refine AW.if_ne (tgt := 17) dX11_man_11 (by decide) (fun hc => ?_) (fun hc => ?_)
    · have hf := (if_neg hc).symm.trans hf
      refine AW.aload_n dX11_man_17 rfl ?_
      refine TW.getR fX11_50_11 hs.k32 (rf_some hs.r32_0) dX11_man_18 ?_
      refine TW.getI (x := (I 42 0)) fX11_71_0 hs.k42 rfl dX11_man_21 ?_
      refine AW.if_lt (tgt := 39) dX11_man_24 (by decide) (fun hc => ?_) (fun hc => ?_)
      · have hf := (if_pos hc).symm.trans hf
        refine AW.bipush (v := (-4 : Int32)) dX11_man_39 (by decide) ?_
        obtain rfl := Option.some.inj hf
        exact AW.iret (st := []) dX11_man_41 rfl hK
      · have hf := (if_neg hc).symm.trans hf
        refine AW.aload_n dX11_man_27 rfl ?_
        refine TW.getR fX11_50_11 hs.k32 (rf_some hs.r32_0) dX11_man_28 ?_
        refine TW.getI (x := (I 42 0)) fX11_71_0 hs.k42 rfl dX11_man_31 ?_
        refine AW.bipush (v := (8 : Int32)) dX11_man_34 (by decide) ?_
        refine AW.icmp_lt (tgt := 42) dX11_man_36 (by decide) (fun hc => ?_) (fun hc => ?_)
        · have hf := (if_pos hc).symm.trans hf
          refine AW.aload_n dX11_man_42 rfl ?_
          refine TW.getR fX11_50_11 hs.k32 (rf_some hs.r32_0) dX11_man_43 ?_
          refine TW.getR fX11_74_0 hs.k42 (rf_some hs.r42_1) dX11_man_46 ?_
          refine AW.aload_n dX11_man_49 rfl ?_
          refine TW.getR fX11_50_11 hs.k32 (rf_some hs.r32_0) dX11_man_50 ?_
          refine TW.getI (x := (I 42 0)) fX11_71_0 hs.k42 rfl dX11_man_53 ?_
          refine AW.iload_n dX11_man_56 rfl ?_
          obtain ⟨h3, hf⟩ := gd_split hf
          refine TW.iast hs.k43 h3 dX11_man_57 ?_
          show AW G mX11_man (d + 1) 0 0 K 58 [some (.ref 32), some (.int p1), some (.int p2)] [] ((u2 I 43 (tn (I 42 0)) p1), J, ρ)
          refine AW.aload_n dX11_man_58 rfl ?_
          refine TW.getR fX11_50_11 hs.k32 (rf_some hs.r32_0) dX11_man_59 ?_
          refine TW.getR fX11_78_0 hs.k42 (rf_some hs.r42_2) dX11_man_62 ?_
          refine AW.aload_n dX11_man_65 rfl ?_
          refine TW.getR fX11_50_11 hs.k32 (rf_some hs.r32_0) dX11_man_66 ?_
          refine TW.getI (x := (I 42 0)) fX11_71_0 hs.k42 (u2_ne (by decide)) dX11_man_69 ?_
          refine AW.iload_n dX11_man_72 rfl ?_
          obtain ⟨h4, hf⟩ := gd_split hf
          refine TW.iast hs.k44 h4 dX11_man_73 ?_
          show AW G mX11_man (d + 1) 0 0 K 74 [some (.ref 32), some (.int p1), some (.int p2)] [] ((u2 (u2 I 43 (tn (I 42 0)) p1) 44 (tn (I 42 0)) p2), J, ρ)
          refine AW.aload_n dX11_man_74 rfl ?_
          refine TW.getR fX11_50_11 hs.k32 (rf_some hs.r32_0) dX11_man_75 ?_
          refine AW.dup dX11_man_78 rfl ?_
          refine TW.getI (x := (I 42 0)) fX11_71_0 hs.k42 ((u2_ne (by decide)).trans (u2_ne (by decide))) dX11_man_79 ?_
          refine AW.iconst (v := (1 : Int32)) dX11_man_82 (by decide) ?_
          refine AW.iadd dX11_man_83 ?_
          refine TW.putI fX11_71_0 hs.k42 (Or.inl rfl) dX11_man_84 ?_
          show AW G mX11_man (d + 1) 0 0 K 87 [some (.ref 32), some (.int p1), some (.int p2)] [] ((u2 (u2 (u2 I 43 (tn (I 42 0)) p1) 44 (tn (I 42 0)) p2) 42 0 ((I 42 0) + (1 : Int32))), J, ρ)
          refine AW.aload_n dX11_man_87 rfl ?_
          refine TW.getR fX11_50_11 hs.k32 (rf_some hs.r32_0) dX11_man_88 ?_
          refine TW.getI (x := ((I 42 0) + (1 : Int32))) fX11_71_0 hs.k42 u2_eq dX11_man_91 ?_
          refine AW.iconst (v := (1 : Int32)) dX11_man_94 (by decide) ?_
          refine AW.isub dX11_man_95 ?_
          obtain rfl := Option.some.inj hf
          exact AW.iret (st := []) dX11_man_96 rfl hK
        · have hf := (if_neg hc).symm.trans hf
          refine AW.bipush (v := (-4 : Int32)) dX11_man_39 (by decide) ?_
          obtain rfl := Option.some.inj hf
          exact AW.iret (st := []) dX11_man_41 rfl hK
    · have hf := (if_pos hc).symm.trans hf
      refine AW.bipush (v := (-2 : Int32)) dX11_man_14 (by decide) ?_
      obtain rfl := Option.some.inj hf
      exact AW.iret (st := []) dX11_man_16 rfl hK
def f_X11_exchange (N : Nat) (ρ : Rh) (I : Nat → Nat → Int32) (J : Nat → Nat → Int64) (p1 : Nat) (p2 : Int32) (p3 : Int32) : Option ((Nat → Nat → Int32) × Int32) := (if ρ.2.1 p1 = (1, (ρ.2.1 p1).2) then (if ¬ (p2 < 0 ∨ (ρ.2.1 p1).2 ≤ tn p2) then (if ¬ (p2 < 0 ∨ (ρ.2.1 p1).2 ≤ tn p2) then some ((u2 I p1 (tn p2) p3), (I p1 (tn p2))) else none) else none) else none)
theorem c_X11_exchange {G : Gd} {d N : Nat} {K : Ah → Option Value → Prop} {ρ : Rh} {I : Nat → Nat → Int32} {J : Nat → Nat → Int64} {p1 : Nat} {p2 : Int32} {p3 : Int32} {o : (Nat → Nat → Int32) × Int32} (hs : Sh ρ) (hf : f_X11_exchange N ρ I J p1 p2 p3 = some o) (hK : K (o.1, J, ρ) (some (.int o.2))) : AM G d 0 0 mX11_exchange [.ref p1, .int p2, .int p3] (I, J, ρ) K := by
  unfold f_X11_exchange at hf
  refine AM.intro okX11_exchange.2.2.2.1 (Nat.le_of_ble_eq_true rfl) [some (.ref p1), some (.int p2), some (.int p3), none] rfl ?_
  refine AW.aload_n dX11_exchange_0 rfl ?_
  refine AW.iload_n dX11_exchange_1 rfl ?_
  obtain ⟨h1, hf⟩ := gd_split hf
  obtain ⟨h2, hf⟩ := gd_split hf
  refine TW.iald (x := (I p1 (tn p2))) h1 h2 rfl dX11_exchange_2 ?_
  refine AW.istore_n (ls' := [some (.ref p1), some (.int p2), some (.int p3), some (.int (I p1 (tn p2)))]) dX11_exchange_3 (Nat.le_of_ble_eq_true rfl) rfl ?_
  refine AW.aload_n dX11_exchange_4 rfl ?_
  refine AW.iload_n dX11_exchange_5 rfl ?_
  refine AW.iload_n dX11_exchange_6 rfl ?_
  obtain ⟨h3, hf⟩ := gd_split hf
  refine TW.iast h1 h3 dX11_exchange_7 ?_
  show AW G mX11_exchange d 0 0 K 8 [some (.ref p1), some (.int p2), some (.int p3), some (.int (I p1 (tn p2)))] [] ((u2 I p1 (tn p2) p3), J, ρ)
  refine AW.iload_n dX11_exchange_8 rfl ?_
  obtain rfl := Option.some.inj hf
  exact AW.iret (st := []) dX11_exchange_9 rfl hK
def f_X11_isMan (N : Nat) (ρ : Rh) (I : Nat → Nat → Int32) (J : Nat → Nat → Int64) (p1 : Int32) : Option (Int32) := (if (p1 < (0 : Int32)) then some (0 : Int32) else (if ((I 42 0) ≤ p1) then some (0 : Int32) else some (1 : Int32)))
theorem c_X11_isMan {G : Gd} {d N : Nat} {K : Ah → Option Value → Prop} {ρ : Rh} {I : Nat → Nat → Int32} {J : Nat → Nat → Int64} {p1 : Int32} {o : Int32} (hs : Sh ρ) (hf : f_X11_isMan N ρ I J p1 = some o) (hK : K (I, J, ρ) (some (.int o))) : AM G d 0 0 mX11_isMan [.ref 32, .int p1] (I, J, ρ) K := by
  unfold f_X11_isMan at hf
  refine AM.intro okX11_isMan.2.2.2.1 (Nat.le_of_ble_eq_true rfl) [some (.ref 32), some (.int p1)] rfl ?_
  refine AW.iload_n dX11_isMan_0 rfl ?_
  refine AW.if_lt (tgt := 19) dX11_isMan_1 (by decide) (fun hc => ?_) (fun hc => ?_)
  · have hf := (if_pos hc).symm.trans hf
    refine AW.iconst (v := (0 : Int32)) dX11_isMan_19 (by decide) ?_
    obtain rfl := Option.some.inj hf
    exact AW.zret (st := []) dX11_isMan_20 rfl (Or.inl rfl) hK
  · have hf := (if_neg hc).symm.trans hf
    refine AW.iload_n dX11_isMan_4 rfl ?_
    refine AW.aload_n dX11_isMan_5 rfl ?_
    refine TW.getR fX11_50_11 hs.k32 (rf_some hs.r32_0) dX11_isMan_6 ?_
    refine TW.getI (x := (I 42 0)) fX11_71_0 hs.k42 rfl dX11_isMan_9 ?_
    refine AW.icmp_ge (tgt := 19) dX11_isMan_12 (by decide) (fun hc => ?_) (fun hc => ?_)
    · have hf := (if_pos hc).symm.trans hf
      refine AW.iconst (v := (0 : Int32)) dX11_isMan_19 (by decide) ?_
      obtain rfl := Option.some.inj hf
      exact AW.zret (st := []) dX11_isMan_20 rfl (Or.inl rfl) hK
    · have hf := (if_neg hc).symm.trans hf
      refine AW.iconst (v := (1 : Int32)) dX11_isMan_15 (by decide) ?_
      refine AW.goto (tgt := 20) dX11_isMan_16 (by decide) ?_
      obtain rfl := Option.some.inj hf
      exact AW.zret (st := []) dX11_isMan_20 rfl (Or.inr rfl) hK
def f_X11_set (N : Nat) (ρ : Rh) (I : Nat → Nat → Int32) (J : Nat → Nat → Int64) (p1 : Int32) (p2 : Int32) (p3 : Int32) : Option ((Nat → Nat → Int32) × Int32) := (Option.bind (f_X11_isMan N ρ I J p1) fun v1 => (if (v1 = (0 : Int32)) then some (I, (-5 : Int32)) else (((if (p2 = (0 : Int32)) then (Option.bind (f_X11_isStore N ρ I J p3) fun v2 => (if (v2 = (0 : Int32)) then some (Sum.inr ()) else (Option.bind (f_X11_exchange N ρ I J 43 p1 p3) fun v3 => some (Sum.inl (v3.1, v3.2))))) else some (Sum.inr ())) : Option (((Nat → Nat → Int32) × Int32) ⊕ (Unit))).bind fun j4 => scase j4 (fun r => some r) (fun j4 => (if (p2 = (1 : Int32)) then (Option.bind (f_X11_isRows N ρ I J p3) fun v5 => (if (v5 = (0 : Int32)) then some (I, (-7 : Int32)) else (Option.bind (f_X11_exchange N ρ I J 44 p1 p3) fun v6 => some (v6.1, v6.2)))) else some (I, (-7 : Int32)))))))
theorem c_X11_set {G : Gd} {d N : Nat} {K : Ah → Option Value → Prop} {ρ : Rh} {I : Nat → Nat → Int32} {J : Nat → Nat → Int64} {p1 : Int32} {p2 : Int32} {p3 : Int32} {o : (Nat → Nat → Int32) × Int32} (hs : Sh ρ) (hf : f_X11_set N ρ I J p1 p2 p3 = some o) (hK : K (o.1, J, ρ) (some (.int o.2))) : AM G (d + 1) 0 0 mX11_set [.ref 32, .int p1, .int p2, .int p3] (I, J, ρ) K := by
  unfold f_X11_set at hf
  refine AM.intro okX11_set.2.2.2.1 (Nat.le_of_ble_eq_true rfl) [some (.ref 32), some (.int p1), some (.int p2), some (.int p3)] rfl ?_
  refine AW.aload_n dX11_set_0 rfl ?_
  refine AW.iload_n dX11_set_1 rfl ?_
  obtain ⟨v1, gv1, hf⟩ := ob_split hf
  refine TW.invv (as := [.int p1]) (rest := []) viX11_81_11 hs.k32 dX11_set_2 rfl rfl (Nat.le_of_ble_eq_true rfl) (c_X11_isMan hs gv1 ?_)
  show AW G mX11_set (d + 1) 0 0 K 5 [some (.ref 32), some (.int p1), some (.int p2), some (.int p3)] [.int v1] (I, J, ρ)
  refine AW.if_ne (tgt := 11) dX11_set_5 (by decide) (fun hc => ?_) (fun hc => ?_)
  · have hf := (if_neg hc).symm.trans hf
    refine AW.iload_n dX11_set_11 rfl ?_
    obtain ⟨j4, gj4, hf⟩ := ob_split hf
    have Kj4 : scase j4 (fun r => K (r.1, J, ρ) (some (.int r.2))) (fun j4 => AW G mX11_set (d + 1) 0 0 K 35 [some (.ref 32), some (.int p1), some (.int p2), some (.int p3)] [] (I, J, ρ)) := by
      rcases j4 with r | j4
      · obtain rfl := Option.some.inj hf; exact hK
      · show AW G mX11_set (d + 1) 0 0 K 35 [some (.ref 32), some (.int p1), some (.int p2), some (.int p3)] [] (I, J, ρ)
        refine AW.iload_n dX11_set_35 rfl ?_
        refine AW.iconst (v := (1 : Int32)) dX11_set_36 (by decide) ?_
        refine AW.icmp_ne (tgt := 60) dX11_set_37 (by decide) (fun hc => ?_) (fun hc => ?_)
        · have hf := (if_neg hc).symm.trans hf
          refine AW.bipush (v := (-7 : Int32)) dX11_set_60 (by decide) ?_
          obtain rfl := Option.some.inj hf
          exact AW.iret (st := []) dX11_set_62 rfl hK
        · have hf := (if_pos hc).symm.trans hf
          refine AW.iload_n dX11_set_40 rfl ?_
          obtain ⟨v5, gv5, hf⟩ := ob_split hf
          refine TW.invs (as := [.int p3]) (rest := []) stX11_68 dX11_set_41 rfl rfl (Nat.le_of_ble_eq_true rfl) (c_X11_isRows hs gv5 ?_)
          show AW G mX11_set (d + 1) 0 0 K 44 [some (.ref 32), some (.int p1), some (.int p2), some (.int p3)] [.int v5] (I, J, ρ)
          refine AW.if_eq (tgt := 60) dX11_set_44 (by decide) (fun hc => ?_) (fun hc => ?_)
          · have hf := (if_pos hc).symm.trans hf
            refine AW.bipush (v := (-7 : Int32)) dX11_set_60 (by decide) ?_
            obtain rfl := Option.some.inj hf
            exact AW.iret (st := []) dX11_set_62 rfl hK
          · have hf := (if_neg hc).symm.trans hf
            refine AW.aload_n dX11_set_47 rfl ?_
            refine TW.getR fX11_50_11 hs.k32 (rf_some hs.r32_0) dX11_set_48 ?_
            refine TW.getR fX11_78_0 hs.k42 (rf_some hs.r42_2) dX11_set_51 ?_
            refine AW.iload_n dX11_set_54 rfl ?_
            refine AW.iload_n dX11_set_55 rfl ?_
            obtain ⟨v6, gv6, hf⟩ := ob_split hf
            refine TW.invs (as := [.ref 44, .int p1, .int p3]) (rest := []) stX11_84 dX11_set_56 rfl rfl (Nat.le_of_ble_eq_true rfl) (c_X11_exchange hs gv6 ?_)
            show AW G mX11_set (d + 1) 0 0 K 59 [some (.ref 32), some (.int p1), some (.int p2), some (.int p3)] [.int v6.2] (v6.1, J, ρ)
            obtain rfl := Option.some.inj hf
            exact AW.iret (st := []) dX11_set_59 rfl hK
    clear hf; have hf := gj4; clear gj4
    refine AW.if_ne (tgt := 35) dX11_set_12 (by decide) (fun hc => ?_) (fun hc => ?_)
    · have hf := (if_neg hc).symm.trans hf
      obtain rfl := Option.some.inj hf
      exact AW.weak _ (by exact (And.intro rfl (And.intro rfl (And.intro rfl (And.intro rfl trivial))))) Kj4
    · have hf := (if_pos hc).symm.trans hf
      refine AW.iload_n dX11_set_15 rfl ?_
      obtain ⟨v2, gv2, hf⟩ := ob_split hf
      refine TW.invs (as := [.int p3]) (rest := []) stX11_64 dX11_set_16 rfl rfl (Nat.le_of_ble_eq_true rfl) (c_X11_isStore hs gv2 ?_)
      show AW G mX11_set (d + 1) 0 0 K 19 [some (.ref 32), some (.int p1), some (.int p2), some (.int p3)] [.int v2] (I, J, ρ)
      refine AW.if_eq (tgt := 35) dX11_set_19 (by decide) (fun hc => ?_) (fun hc => ?_)
      · have hf := (if_pos hc).symm.trans hf
        obtain rfl := Option.some.inj hf
        exact AW.weak _ (by exact (And.intro rfl (And.intro rfl (And.intro rfl (And.intro rfl trivial))))) Kj4
      · have hf := (if_neg hc).symm.trans hf
        refine AW.aload_n dX11_set_22 rfl ?_
        refine TW.getR fX11_50_11 hs.k32 (rf_some hs.r32_0) dX11_set_23 ?_
        refine TW.getR fX11_74_0 hs.k42 (rf_some hs.r42_1) dX11_set_26 ?_
        refine AW.iload_n dX11_set_29 rfl ?_
        refine AW.iload_n dX11_set_30 rfl ?_
        obtain ⟨v3, gv3, hf⟩ := ob_split hf
        refine TW.invs (as := [.ref 43, .int p1, .int p3]) (rest := []) stX11_84 dX11_set_31 rfl rfl (Nat.le_of_ble_eq_true rfl) (c_X11_exchange hs gv3 ?_)
        show AW G mX11_set (d + 1) 0 0 K 34 [some (.ref 32), some (.int p1), some (.int p2), some (.int p3)] [.int v3.2] (v3.1, J, ρ)
        obtain rfl := Option.some.inj hf
        exact AW.iret (st := []) dX11_set_34 rfl Kj4
  · have hf := (if_pos hc).symm.trans hf
    refine AW.bipush (v := (-5 : Int32)) dX11_set_8 (by decide) ?_
    obtain rfl := Option.some.inj hf
    exact AW.iret (st := []) dX11_set_10 rfl hK
def f_X11_boat (N : Nat) (ρ : Rh) (I : Nat → Nat → Int32) (J : Nat → Nat → Int64) (p1 : Int32) (p2 : Int32) : Option ((Nat → Nat → Int32) × Int32) := (if (p1 < (0 : Int32)) then some (I, (-2 : Int32)) else (if ((4 : Int32) ≤ p1) then some (I, (-2 : Int32)) else (if ¬ (p1 < 0 ∨ 4 ≤ tn p1) then (if (p2 < (xl0 (tn p1))) then some (I, (-2 : Int32)) else (if ¬ (p1 < 0 ∨ 4 ≤ tn p1) then (if (p2 ≤ (xl1 (tn p1))) then (Option.bind (f_X11_exchange N ρ I J 45 p1 p2) fun v3 => some (v3.1, v3.2)) else some (I, (-2 : Int32))) else none)) else none)))
theorem c_X11_boat {G : Gd} {d N : Nat} {K : Ah → Option Value → Prop} {ρ : Rh} {I : Nat → Nat → Int32} {J : Nat → Nat → Int64} {p1 : Int32} {p2 : Int32} {o : (Nat → Nat → Int32) × Int32} (hs : Sh ρ) (hf : f_X11_boat N ρ I J p1 p2 = some o) (hK : K (o.1, J, ρ) (some (.int o.2))) : AM G (d + 1) 0 0 mX11_boat [.ref 32, .int p1, .int p2] (I, J, ρ) K := by
  unfold f_X11_boat at hf
  refine AM.intro okX11_boat.2.2.2.1 (Nat.le_of_ble_eq_true rfl) [some (.ref 32), some (.int p1), some (.int p2)] rfl ?_
  refine AW.iload_n dX11_boat_0 rfl ?_
  refine AW.if_lt (tgt := 27) dX11_boat_1 (by decide) (fun hc => ?_) (fun hc => ?_)
  · have hf := (if_pos hc).symm.trans hf
    refine AW.bipush (v := (-2 : Int32)) dX11_boat_27 (by decide) ?_
    obtain rfl := Option.some.inj hf
    exact AW.iret (st := []) dX11_boat_29 rfl hK
  · have hf := (if_neg hc).symm.trans hf
    refine AW.iload_n dX11_boat_4 rfl ?_
    refine AW.iconst (v := (4 : Int32)) dX11_boat_5 (by decide) ?_
    refine AW.icmp_ge (tgt := 27) dX11_boat_6 (by decide) (fun hc => ?_) (fun hc => ?_)
    · have hf := (if_pos hc).symm.trans hf
      refine AW.bipush (v := (-2 : Int32)) dX11_boat_27 (by decide) ?_
      obtain rfl := Option.some.inj hf
      exact AW.iret (st := []) dX11_boat_29 rfl hK
    · have hf := (if_neg hc).symm.trans hf
      refine AW.iload_n dX11_boat_9 rfl ?_
      refine AW.gets0 gsX11_88 dX11_boat_10 ?_
      refine AW.iload_n dX11_boat_13 rfl ?_
      obtain ⟨h1, hf⟩ := gd_split hf
      refine AW.tab0 h1 rfl dX11_boat_14 ?_
      refine AW.icmp_lt (tgt := 27) dX11_boat_15 (by decide) (fun hc => ?_) (fun hc => ?_)
      · have hf := (if_pos hc).symm.trans hf
        refine AW.bipush (v := (-2 : Int32)) dX11_boat_27 (by decide) ?_
        obtain rfl := Option.some.inj hf
        exact AW.iret (st := []) dX11_boat_29 rfl hK
      · have hf := (if_neg hc).symm.trans hf
        refine AW.iload_n dX11_boat_18 rfl ?_
        refine AW.gets1 gsX11_91 dX11_boat_19 ?_
        refine AW.iload_n dX11_boat_22 rfl ?_
        obtain ⟨h2, hf⟩ := gd_split hf
        refine AW.tab1 h2 rfl dX11_boat_23 ?_
        refine AW.icmp_le (tgt := 30) dX11_boat_24 (by decide) (fun hc => ?_) (fun hc => ?_)
        · have hf := (if_pos hc).symm.trans hf
          refine AW.aload_n dX11_boat_30 rfl ?_
          refine TW.getR fX11_50_11 hs.k32 (rf_some hs.r32_0) dX11_boat_31 ?_
          refine TW.getR fX11_94_0 hs.k42 (rf_some hs.r42_3) dX11_boat_34 ?_
          refine AW.iload_n dX11_boat_37 rfl ?_
          refine AW.iload_n dX11_boat_38 rfl ?_
          obtain ⟨v3, gv3, hf⟩ := ob_split hf
          refine TW.invs (as := [.ref 45, .int p1, .int p2]) (rest := []) stX11_84 dX11_boat_39 rfl rfl (Nat.le_of_ble_eq_true rfl) (c_X11_exchange hs gv3 ?_)
          show AW G mX11_boat (d + 1) 0 0 K 42 [some (.ref 32), some (.int p1), some (.int p2)] [.int v3.2] (v3.1, J, ρ)
          obtain rfl := Option.some.inj hf
          exact AW.iret (st := []) dX11_boat_42 rfl hK
        · have hf := (if_neg hc).symm.trans hf
          refine AW.bipush (v := (-2 : Int32)) dX11_boat_27 (by decide) ?_
          obtain rfl := Option.some.inj hf
          exact AW.iret (st := []) dX11_boat_29 rfl hK
def f_X11_day (N : Nat) (ρ : Rh) (I : Nat → Nat → Int32) (J : Nat → Nat → Int64) (p1 : Int32) (p2 : Int32) (p3 : Int32) : Option ((Nat → Nat → Int32) × Int32) := (if (p1 < (0 : Int32)) then some (I, (-5 : Int32)) else (if (p1 < (12 : Int32)) then (((if (p2 = (0 : Int32)) then (if (p3 < (0 : Int32)) then some (Sum.inr ()) else (if ((9 : Int32) < p3) then some (Sum.inr ()) else (Option.bind (f_X11_exchange N ρ I J 46 p1 p3) fun v1 => some (Sum.inl (v1.1, v1.2))))) else some (Sum.inr ())) : Option (((Nat → Nat → Int32) × Int32) ⊕ (Unit))).bind fun j2 => scase j2 (fun r => some r) (fun j2 => (if (p2 = (1 : Int32)) then (if (p3 < (0 : Int32)) then some (I, (-7 : Int32)) else (if ((50 : Int32) < p3) then some (I, (-7 : Int32)) else (Option.bind (f_X11_exchange N ρ I J 47 p1 p3) fun v3 => some (v3.1, v3.2)))) else some (I, (-7 : Int32))))) else some (I, (-5 : Int32))))
theorem c_X11_day {G : Gd} {d N : Nat} {K : Ah → Option Value → Prop} {ρ : Rh} {I : Nat → Nat → Int32} {J : Nat → Nat → Int64} {p1 : Int32} {p2 : Int32} {p3 : Int32} {o : (Nat → Nat → Int32) × Int32} (hs : Sh ρ) (hf : f_X11_day N ρ I J p1 p2 p3 = some o) (hK : K (o.1, J, ρ) (some (.int o.2))) : AM G (d + 1) 0 0 mX11_day [.ref 32, .int p1, .int p2, .int p3] (I, J, ρ) K := by
  unfold f_X11_day at hf
  refine AM.intro okX11_day.2.2.2.1 (Nat.le_of_ble_eq_true rfl) [some (.ref 32), some (.int p1), some (.int p2), some (.int p3)] rfl ?_
  refine AW.iload_n dX11_day_0 rfl ?_
  refine AW.if_lt (tgt := 10) dX11_day_1 (by decide) (fun hc => ?_) (fun hc => ?_)
  · have hf := (if_pos hc).symm.trans hf
    refine AW.bipush (v := (-5 : Int32)) dX11_day_10 (by decide) ?_
    obtain rfl := Option.some.inj hf
    exact AW.iret (st := []) dX11_day_12 rfl hK
  · have hf := (if_neg hc).symm.trans hf
    refine AW.iload_n dX11_day_4 rfl ?_
    refine AW.bipush (v := (12 : Int32)) dX11_day_5 (by decide) ?_
    refine AW.icmp_lt (tgt := 13) dX11_day_7 (by decide) (fun hc => ?_) (fun hc => ?_)
    · have hf := (if_pos hc).symm.trans hf
      refine AW.iload_n dX11_day_13 rfl ?_
      obtain ⟨j2, gj2, hf⟩ := ob_split hf
      have Kj2 : scase j2 (fun r => K (r.1, J, ρ) (some (.int r.2))) (fun j2 => AW G mX11_day (d + 1) 0 0 K 40 [some (.ref 32), some (.int p1), some (.int p2), some (.int p3)] [] (I, J, ρ)) := by
        rcases j2 with r | j2
        · obtain rfl := Option.some.inj hf; exact hK
        · show AW G mX11_day (d + 1) 0 0 K 40 [some (.ref 32), some (.int p1), some (.int p2), some (.int p3)] [] (I, J, ρ)
          refine AW.iload_n dX11_day_40 rfl ?_
          refine AW.iconst (v := (1 : Int32)) dX11_day_41 (by decide) ?_
          refine AW.icmp_ne (tgt := 68) dX11_day_42 (by decide) (fun hc => ?_) (fun hc => ?_)
          · have hf := (if_neg hc).symm.trans hf
            refine AW.bipush (v := (-7 : Int32)) dX11_day_68 (by decide) ?_
            obtain rfl := Option.some.inj hf
            exact AW.iret (st := []) dX11_day_70 rfl hK
          · have hf := (if_pos hc).symm.trans hf
            refine AW.iload_n dX11_day_45 rfl ?_
            refine AW.if_lt (tgt := 68) dX11_day_46 (by decide) (fun hc => ?_) (fun hc => ?_)
            · have hf := (if_pos hc).symm.trans hf
              refine AW.bipush (v := (-7 : Int32)) dX11_day_68 (by decide) ?_
              obtain rfl := Option.some.inj hf
              exact AW.iret (st := []) dX11_day_70 rfl hK
            · have hf := (if_neg hc).symm.trans hf
              refine AW.iload_n dX11_day_49 rfl ?_
              refine AW.bipush (v := (50 : Int32)) dX11_day_50 (by decide) ?_
              refine AW.icmp_gt (tgt := 68) dX11_day_52 (by decide) (fun hc => ?_) (fun hc => ?_)
              · have hf := (if_pos hc).symm.trans hf
                refine AW.bipush (v := (-7 : Int32)) dX11_day_68 (by decide) ?_
                obtain rfl := Option.some.inj hf
                exact AW.iret (st := []) dX11_day_70 rfl hK
              · have hf := (if_neg hc).symm.trans hf
                refine AW.aload_n dX11_day_55 rfl ?_
                refine TW.getR fX11_50_11 hs.k32 (rf_some hs.r32_0) dX11_day_56 ?_
                refine TW.getR fX11_100_0 hs.k42 (rf_some hs.r42_5) dX11_day_59 ?_
                refine AW.iload_n dX11_day_62 rfl ?_
                refine AW.iload_n dX11_day_63 rfl ?_
                obtain ⟨v3, gv3, hf⟩ := ob_split hf
                refine TW.invs (as := [.ref 47, .int p1, .int p3]) (rest := []) stX11_84 dX11_day_64 rfl rfl (Nat.le_of_ble_eq_true rfl) (c_X11_exchange hs gv3 ?_)
                show AW G mX11_day (d + 1) 0 0 K 67 [some (.ref 32), some (.int p1), some (.int p2), some (.int p3)] [.int v3.2] (v3.1, J, ρ)
                obtain rfl := Option.some.inj hf
                exact AW.iret (st := []) dX11_day_67 rfl hK
      clear hf; have hf := gj2; clear gj2
      refine AW.if_ne (tgt := 40) dX11_day_14 (by decide) (fun hc => ?_) (fun hc => ?_)
      · have hf := (if_neg hc).symm.trans hf
        obtain rfl := Option.some.inj hf
        exact AW.weak _ (by exact (And.intro rfl (And.intro rfl (And.intro rfl (And.intro rfl trivial))))) Kj2
      · have hf := (if_pos hc).symm.trans hf
        refine AW.iload_n dX11_day_17 rfl ?_
        refine AW.if_lt (tgt := 40) dX11_day_18 (by decide) (fun hc => ?_) (fun hc => ?_)
        · have hf := (if_pos hc).symm.trans hf
          obtain rfl := Option.some.inj hf
          exact AW.weak _ (by exact (And.intro rfl (And.intro rfl (And.intro rfl (And.intro rfl trivial))))) Kj2
        · have hf := (if_neg hc).symm.trans hf
          refine AW.iload_n dX11_day_21 rfl ?_
          refine AW.bipush (v := (9 : Int32)) dX11_day_22 (by decide) ?_
          refine AW.icmp_gt (tgt := 40) dX11_day_24 (by decide) (fun hc => ?_) (fun hc => ?_)
          · have hf := (if_pos hc).symm.trans hf
            obtain rfl := Option.some.inj hf
            exact AW.weak _ (by exact (And.intro rfl (And.intro rfl (And.intro rfl (And.intro rfl trivial))))) Kj2
          · have hf := (if_neg hc).symm.trans hf
            refine AW.aload_n dX11_day_27 rfl ?_
            refine TW.getR fX11_50_11 hs.k32 (rf_some hs.r32_0) dX11_day_28 ?_
            refine TW.getR fX11_97_0 hs.k42 (rf_some hs.r42_4) dX11_day_31 ?_
            refine AW.iload_n dX11_day_34 rfl ?_
            refine AW.iload_n dX11_day_35 rfl ?_
            obtain ⟨v1, gv1, hf⟩ := ob_split hf
            refine TW.invs (as := [.ref 46, .int p1, .int p3]) (rest := []) stX11_84 dX11_day_36 rfl rfl (Nat.le_of_ble_eq_true rfl) (c_X11_exchange hs gv1 ?_)
            show AW G mX11_day (d + 1) 0 0 K 39 [some (.ref 32), some (.int p1), some (.int p2), some (.int p3)] [.int v1.2] (v1.1, J, ρ)
            obtain rfl := Option.some.inj hf
            exact AW.iret (st := []) dX11_day_39 rfl Kj2
    · have hf := (if_neg hc).symm.trans hf
      refine AW.bipush (v := (-5 : Int32)) dX11_day_10 (by decide) ?_
      obtain rfl := Option.some.inj hf
      exact AW.iret (st := []) dX11_day_12 rfl hK
def f_X11_boatTold (N : Nat) (ρ : Rh) (I : Nat → Nat → Int32) (J : Nat → Nat → Int64) (p1 : Int32) : Option (Int32) := (if p1 = (0 : Int32) then (if ¬ (p1 < 0 ∨ 4 ≤ tn p1) then some (I 45 (tn p1)) else none) else (if p1 = (1 : Int32) then (if ¬ (p1 < 0 ∨ 4 ≤ tn p1) then some (I 45 (tn p1)) else none) else (if p1 = (2 : Int32) then (if ¬ (p1 < 0 ∨ 4 ≤ tn p1) then some (I 45 (tn p1)) else none) else (if p1 = (3 : Int32) then (if ¬ (p1 < 0 ∨ 4 ≤ tn p1) then some (I 45 (tn p1)) else none) else (if p1 = (4 : Int32) then some (I 42 0) else (if p1 = (5 : Int32) then some (I 32 3) else (if p1 = (6 : Int32) then some (I 32 5) else (if p1 = (7 : Int32) then (Option.bind (ρ.1 42 6) fun a5 => (if ρ.2.1 a5 = (0, 2) then some (I a5 0) else none)) else (if p1 = (8 : Int32) then some (I 35 1) else some (-2 : Int32))))))))))
theorem c_X11_boatTold {G : Gd} {d N : Nat} {K : Ah → Option Value → Prop} {ρ : Rh} {I : Nat → Nat → Int32} {J : Nat → Nat → Int64} {p1 : Int32} {o : Int32} (hs : Sh ρ) (hf : f_X11_boatTold N ρ I J p1 = some o) (hK : K (I, J, ρ) (some (.int o))) : AM G d 0 0 mX11_boatTold [.ref 32, .int p1] (I, J, ρ) K := by
  unfold f_X11_boatTold at hf
  refine AM.intro okX11_boatTold.2.2.2.1 (Nat.le_of_ble_eq_true rfl) [some (.ref 32), some (.int p1)] rfl ?_
  refine AW.iload_n dX11_boatTold_0 rfl ?_
  by_cases hc0 : p1 = (0 : Int32)
  · have hf := (if_pos hc0).symm.trans hf
    refine AW.swIn (tgt := 52) dX11_boatTold_1 (by rw [hc0]; decide) (by rw [hc0]; decide) (by rw [hc0]; rfl) (by decide) ?_
    refine AW.aload_n dX11_boatTold_52 rfl ?_
    refine TW.getR fX11_50_11 hs.k32 (rf_some hs.r32_0) dX11_boatTold_53 ?_
    refine TW.getR fX11_94_0 hs.k42 (rf_some hs.r42_3) dX11_boatTold_56 ?_
    refine AW.iload_n dX11_boatTold_59 rfl ?_
    obtain ⟨h1, hf⟩ := gd_split hf
    refine TW.iald (x := (I 45 (tn p1))) hs.k45 h1 rfl dX11_boatTold_60 ?_
    obtain rfl := Option.some.inj hf
    exact AW.iret (st := []) dX11_boatTold_61 rfl hK
  have hf := (if_neg hc0).symm.trans hf
  by_cases hc1 : p1 = (1 : Int32)
  · have hf := (if_pos hc1).symm.trans hf
    refine AW.swIn (tgt := 52) dX11_boatTold_1 (by rw [hc1]; decide) (by rw [hc1]; decide) (by rw [hc1]; rfl) (by decide) ?_
    refine AW.aload_n dX11_boatTold_52 rfl ?_
    refine TW.getR fX11_50_11 hs.k32 (rf_some hs.r32_0) dX11_boatTold_53 ?_
    refine TW.getR fX11_94_0 hs.k42 (rf_some hs.r42_3) dX11_boatTold_56 ?_
    refine AW.iload_n dX11_boatTold_59 rfl ?_
    obtain ⟨h2, hf⟩ := gd_split hf
    refine TW.iald (x := (I 45 (tn p1))) hs.k45 h2 rfl dX11_boatTold_60 ?_
    obtain rfl := Option.some.inj hf
    exact AW.iret (st := []) dX11_boatTold_61 rfl hK
  have hf := (if_neg hc1).symm.trans hf
  by_cases hc2 : p1 = (2 : Int32)
  · have hf := (if_pos hc2).symm.trans hf
    refine AW.swIn (tgt := 52) dX11_boatTold_1 (by rw [hc2]; decide) (by rw [hc2]; decide) (by rw [hc2]; rfl) (by decide) ?_
    refine AW.aload_n dX11_boatTold_52 rfl ?_
    refine TW.getR fX11_50_11 hs.k32 (rf_some hs.r32_0) dX11_boatTold_53 ?_
    refine TW.getR fX11_94_0 hs.k42 (rf_some hs.r42_3) dX11_boatTold_56 ?_
    refine AW.iload_n dX11_boatTold_59 rfl ?_
    obtain ⟨h3, hf⟩ := gd_split hf
    refine TW.iald (x := (I 45 (tn p1))) hs.k45 h3 rfl dX11_boatTold_60 ?_
    obtain rfl := Option.some.inj hf
    exact AW.iret (st := []) dX11_boatTold_61 rfl hK
  have hf := (if_neg hc2).symm.trans hf
  by_cases hc3 : p1 = (3 : Int32)
  · have hf := (if_pos hc3).symm.trans hf
    refine AW.swIn (tgt := 52) dX11_boatTold_1 (by rw [hc3]; decide) (by rw [hc3]; decide) (by rw [hc3]; rfl) (by decide) ?_
    refine AW.aload_n dX11_boatTold_52 rfl ?_
    refine TW.getR fX11_50_11 hs.k32 (rf_some hs.r32_0) dX11_boatTold_53 ?_
    refine TW.getR fX11_94_0 hs.k42 (rf_some hs.r42_3) dX11_boatTold_56 ?_
    refine AW.iload_n dX11_boatTold_59 rfl ?_
    obtain ⟨h4, hf⟩ := gd_split hf
    refine TW.iald (x := (I 45 (tn p1))) hs.k45 h4 rfl dX11_boatTold_60 ?_
    obtain rfl := Option.some.inj hf
    exact AW.iret (st := []) dX11_boatTold_61 rfl hK
  have hf := (if_neg hc3).symm.trans hf
  by_cases hc4 : p1 = (4 : Int32)
  · have hf := (if_pos hc4).symm.trans hf
    refine AW.swIn (tgt := 62) dX11_boatTold_1 (by rw [hc4]; decide) (by rw [hc4]; decide) (by rw [hc4]; rfl) (by decide) ?_
    refine AW.aload_n dX11_boatTold_62 rfl ?_
    refine TW.getR fX11_50_11 hs.k32 (rf_some hs.r32_0) dX11_boatTold_63 ?_
    refine TW.getI (x := (I 42 0)) fX11_71_0 hs.k42 rfl dX11_boatTold_66 ?_
    obtain rfl := Option.some.inj hf
    exact AW.iret (st := []) dX11_boatTold_69 rfl hK
  have hf := (if_neg hc4).symm.trans hf
  by_cases hc5 : p1 = (5 : Int32)
  · have hf := (if_pos hc5).symm.trans hf
    refine AW.swIn (tgt := 70) dX11_boatTold_1 (by rw [hc5]; decide) (by rw [hc5]; decide) (by rw [hc5]; rfl) (by decide) ?_
    refine AW.aload_n dX11_boatTold_70 rfl ?_
    refine TW.getI (x := (I 32 3)) fX11_103_11 hs.k32 rfl dX11_boatTold_71 ?_
    obtain rfl := Option.some.inj hf
    exact AW.iret (st := []) dX11_boatTold_74 rfl hK
  have hf := (if_neg hc5).symm.trans hf
  by_cases hc6 : p1 = (6 : Int32)
  · have hf := (if_pos hc6).symm.trans hf
    refine AW.swIn (tgt := 75) dX11_boatTold_1 (by rw [hc6]; decide) (by rw [hc6]; decide) (by rw [hc6]; rfl) (by decide) ?_
    refine AW.aload_n dX11_boatTold_75 rfl ?_
    refine TW.getI (x := (I 32 5)) fX11_41_11 hs.k32 rfl dX11_boatTold_76 ?_
    obtain rfl := Option.some.inj hf
    exact AW.iret (st := []) dX11_boatTold_79 rfl hK
  have hf := (if_neg hc6).symm.trans hf
  by_cases hc7 : p1 = (7 : Int32)
  · have hf := (if_pos hc7).symm.trans hf
    refine AW.swIn (tgt := 80) dX11_boatTold_1 (by rw [hc7]; decide) (by rw [hc7]; decide) (by rw [hc7]; rfl) (by decide) ?_
    refine AW.aload_n dX11_boatTold_80 rfl ?_
    refine TW.getR fX11_50_11 hs.k32 (rf_some hs.r32_0) dX11_boatTold_81 ?_
    obtain ⟨a5, ga5, hf⟩ := ob_split hf
    refine TW.getR (v := .ref a5) fX11_106_0 hs.k42 (rf_some ga5) dX11_boatTold_84 ?_
    obtain ⟨h6, hf⟩ := gd_split hf
    refine TW.getI (x := (I a5 0)) fX11_110_2 h6 rfl dX11_boatTold_87 ?_
    obtain rfl := Option.some.inj hf
    exact AW.iret (st := []) dX11_boatTold_90 rfl hK
  have hf := (if_neg hc7).symm.trans hf
  by_cases hc8 : p1 = (8 : Int32)
  · have hf := (if_pos hc8).symm.trans hf
    refine AW.swIn (tgt := 91) dX11_boatTold_1 (by rw [hc8]; decide) (by rw [hc8]; decide) (by rw [hc8]; rfl) (by decide) ?_
    refine AW.aload_n dX11_boatTold_91 rfl ?_
    refine TW.getR fX11_24_11 hs.k32 (rf_some hs.r32_6) dX11_boatTold_92 ?_
    refine TW.getI (x := (I 35 1)) fX11_113_8 hs.k35 rfl dX11_boatTold_95 ?_
    obtain rfl := Option.some.inj hf
    exact AW.iret (st := []) dX11_boatTold_98 rfl hK
  have hf := (if_neg hc8).symm.trans hf
  have KD : AW G mX11_boatTold d 0 0 K 99 [some (.ref 32), some (.int p1)] [] (I, J, ρ) := by
    refine AW.bipush (v := (-2 : Int32)) dX11_boatTold_99 (by decide) ?_
    obtain rfl := Option.some.inj hf
    exact AW.iret (st := []) dX11_boatTold_101 rfl hK
  have hc0 : ¬ (p1).toInt = 0 := fun q => hc0 (Int32.toInt_inj.mp q)
  have hc1 : ¬ (p1).toInt = 1 := fun q => hc1 (Int32.toInt_inj.mp q)
  have hc2 : ¬ (p1).toInt = 2 := fun q => hc2 (Int32.toInt_inj.mp q)
  have hc3 : ¬ (p1).toInt = 3 := fun q => hc3 (Int32.toInt_inj.mp q)
  have hc4 : ¬ (p1).toInt = 4 := fun q => hc4 (Int32.toInt_inj.mp q)
  have hc5 : ¬ (p1).toInt = 5 := fun q => hc5 (Int32.toInt_inj.mp q)
  have hc6 : ¬ (p1).toInt = 6 := fun q => hc6 (Int32.toInt_inj.mp q)
  have hc7 : ¬ (p1).toInt = 7 := fun q => hc7 (Int32.toInt_inj.mp q)
  have hc8 : ¬ (p1).toInt = 8 := fun q => hc8 (Int32.toInt_inj.mp q)
  exact AW.swOut dX11_boatTold_1 (by omega) (by decide) KD
def f_X11_sheetAt (N : Nat) (ρ : Rh) (I : Nat → Nat → Int32) (J : Nat → Nat → Int64) (p1 : Int32) : Option (Option Nat) := (if (p1 < (0 : Int32)) then some none else (if ((4 : Int32) ≤ p1) then some none else (if ¬ (p1 < 0 ∨ 4 ≤ tn p1) then some (some (81 + 2 * (tn p1))) else none)))
theorem c_X11_sheetAt {G : Gd} {d N : Nat} {K : Ah → Option Value → Prop} {ρ : Rh} {I : Nat → Nat → Int32} {J : Nat → Nat → Int64} {p1 : Int32} {o : Option Nat} (hs : Sh ρ) (hf : f_X11_sheetAt N ρ I J p1 = some o) (hK : K (I, J, ρ) (some (va_rf o))) : AM G d 0 0 mX11_sheetAt [.ref 32, .int p1] (I, J, ρ) K := by
  unfold f_X11_sheetAt at hf
  refine AM.intro okX11_sheetAt.2.2.2.1 (Nat.le_of_ble_eq_true rfl) [some (.ref 32), some (.int p1)] rfl ?_
  refine AW.iload_n dX11_sheetAt_0 rfl ?_
  refine AW.if_lt (tgt := 18) dX11_sheetAt_1 (by decide) (fun hc => ?_) (fun hc => ?_)
  · have hf := (if_pos hc).symm.trans hf
    refine AW.null dX11_sheetAt_18 ?_
    obtain rfl := Option.some.inj hf
    exact AW.aret (st := []) (o := none) dX11_sheetAt_19 (Or.inl ⟨_, rfl⟩) hK
  · have hf := (if_neg hc).symm.trans hf
    refine AW.iload_n dX11_sheetAt_4 rfl ?_
    refine AW.iconst (v := (4 : Int32)) dX11_sheetAt_5 (by decide) ?_
    refine AW.icmp_ge (tgt := 18) dX11_sheetAt_6 (by decide) (fun hc => ?_) (fun hc => ?_)
    · have hf := (if_pos hc).symm.trans hf
      refine AW.null dX11_sheetAt_18 ?_
      obtain rfl := Option.some.inj hf
      exact AW.aret (st := []) (o := none) dX11_sheetAt_19 (Or.inl ⟨_, rfl⟩) hK
    · have hf := (if_neg hc).symm.trans hf
      refine AW.aload_n dX11_sheetAt_9 rfl ?_
      refine TW.getR fX11_30_11 hs.k32 (rf_some hs.r32_7) dX11_sheetAt_10 ?_
      refine AW.iload_n dX11_sheetAt_13 rfl ?_
      obtain ⟨h1, hf⟩ := gd_split hf
      have hl2 : (tn p1) < 4 := vp_lt h1
      refine TW.aald (t := 2) hs.k38 (by decide) h1 (rf_some (hs.e38 hl2)) dX11_sheetAt_14 ?_
      refine AW.goto (tgt := 19) dX11_sheetAt_15 (by decide) ?_
      obtain rfl := Option.some.inj hf
      exact AW.aret (st := []) (o := (some (81 + 2 * (tn p1)))) dX11_sheetAt_19 (Or.inl ⟨_, rfl⟩) hK
def f_any_toldFor (N : Nat) (ρ : Rh) (I : Nat → Nat → Int32) (J : Nat → Nat → Int64) (a : Nat) (m : Int32) : Option Int32 := if isR (ρ.2.1 a) then (if (ρ.2.1 a).2 = 6 then f_X6_toldFor N ρ I J a m else (if (ρ.2.1 a).2 = 5 then f_X6_toldFor N ρ I J a m else (if (ρ.2.1 a).2 = 4 then f_X6_toldFor N ρ I J a m else (if (ρ.2.1 a).2 = 3 then f_X6_toldFor N ρ I J a m else (if (ρ.2.1 a).2 = 9 then f_X9_toldFor N ρ I J a m else f_X6_toldFor N ρ I J a m))))) else none
theorem TW.any_toldFor {G : Gd} {d N pc a : Nat} {m v : Int32} {K : Ah → Option Value → Prop} {ls : List (Option Value)} {rest : List Value} {ρ : Rh} {I : Nat → Nat → Int32} {J : Nat → Nat → Int64} (hs : Sh ρ) (hd : decode mX11_ruleTold.2.1 pc = .ok (.invokevirtual 143, 3)) (hg : f_any_toldFor N ρ I J a m = some v) (hr : (rest.map fun v => v.category).sum ≤ 8) (kk : AW G mX11_ruleTold (d + 1) 0 0 K (pc + 3) ls (.int v :: rest) (I, J, ρ)) : AW G mX11_ruleTold (d + 1) 0 0 K pc ls (.int m :: .ref a :: rest) (I, J, ρ) := by
  unfold f_any_toldFor at hg
  obtain ⟨⟨h0, h⟩, hg⟩ := gd_split hg
  rcases h with h | h | h | h | h | h
  · have hg : f_X6_toldFor N ρ I J a m = some v := by rw [h] at hg; exact hg
    exact TW.invv (as := [.int m]) (rest := rest) viX11_143_6 (Prod.ext h0 h) hd rfl rfl hr (c_X6_toldFor hs hg kk)
  · have hg : f_X6_toldFor N ρ I J a m = some v := by rw [h] at hg; exact hg
    exact TW.invu (as := [.int m]) (rest := rest) vuX11_143_5 (Prod.ext h0 h) hd rfl rfl hr (c_X6_toldFor hs hg kk)
  · have hg : f_X6_toldFor N ρ I J a m = some v := by rw [h] at hg; exact hg
    exact TW.invu (as := [.int m]) (rest := rest) vuX11_143_4 (Prod.ext h0 h) hd rfl rfl hr (c_X6_toldFor hs hg kk)
  · have hg : f_X6_toldFor N ρ I J a m = some v := by rw [h] at hg; exact hg
    exact TW.invu (as := [.int m]) (rest := rest) vuX11_143_3 (Prod.ext h0 h) hd rfl rfl hr (c_X6_toldFor hs hg kk)
  · have hg : f_X9_toldFor N ρ I J a m = some v := by rw [h] at hg; exact hg
    exact TW.invu (as := [.int m]) (rest := rest) vuX11_143_9 (Prod.ext h0 h) hd rfl rfl hr (c_X9_toldFor hs hg kk)
  · have hg : f_X6_toldFor N ρ I J a m = some v := by rw [h] at hg; exact hg
    exact TW.invu (as := [.int m]) (rest := rest) vuX11_143_1 (Prod.ext h0 h) hd rfl rfl hr (c_X6_toldFor hs hg kk)
