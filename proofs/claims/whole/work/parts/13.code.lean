/-! ===== methods ===== -/
def f_X11_isStore (N : Nat) (ρ : Rh) (I : Nat → Nat → Int32) (J : Nat → Nat → Int64) (p1 : Int32) : Option (Int32) := (if (p1 < (1 : Int32)) then some (0 : Int32) else (if ((99 : Int32) < p1) then some (0 : Int32) else some (1 : Int32)))
theorem c_X11_isStore {G : Gd} {d N : Nat} {K : Ah → Option Value → Prop} {ρ : Rh} {I : Nat → Nat → Int32} {J : Nat → Nat → Int64} {p1 : Int32} {o : Int32} (hs : Sh ρ) (hf : f_X11_isStore N ρ I J p1 = some o) (hK : K (I, J, ρ) (some (.int o))) : AM G d 0 0 mX11_isStore [.int p1] (I, J, ρ) K := by
  unfold f_X11_isStore at hf
  refine AM.intro okX11_isStore.2.2.2.1 (Nat.le_of_ble_eq_true rfl) [some (.int p1)] rfl ?_
  refine AW.iload_n dX11_isStore_0 rfl ?_
  refine AW.iconst (v := (1 : Int32)) dX11_isStore_1 (by decide) ?_
  refine AW.icmp_lt (tgt := 15) dX11_isStore_2 (by decide) (fun hc => ?_) (fun hc => ?_)
  · have hf := (if_pos hc).symm.trans hf
    refine AW.iconst (v := (0 : Int32)) dX11_isStore_15 (by decide) ?_
    obtain rfl := Option.some.inj hf
    exact AW.zret (st := []) dX11_isStore_16 rfl (Or.inl rfl) hK
  · have hf := (if_neg hc).symm.trans hf
    refine AW.iload_n dX11_isStore_5 rfl ?_
    refine AW.bipush (v := (99 : Int32)) dX11_isStore_6 (by decide) ?_
    refine AW.icmp_gt (tgt := 15) dX11_isStore_8 (by decide) (fun hc => ?_) (fun hc => ?_)
    · have hf := (if_pos hc).symm.trans hf
      refine AW.iconst (v := (0 : Int32)) dX11_isStore_15 (by decide) ?_
      obtain rfl := Option.some.inj hf
      exact AW.zret (st := []) dX11_isStore_16 rfl (Or.inl rfl) hK
    · have hf := (if_neg hc).symm.trans hf
      refine AW.iconst (v := (1 : Int32)) dX11_isStore_11 (by decide) ?_
      refine AW.goto (tgt := 16) dX11_isStore_12 (by decide) ?_
      obtain rfl := Option.some.inj hf
      exact AW.zret (st := []) dX11_isStore_16 rfl (Or.inr rfl) hK
def f_X11_isRows (N : Nat) (ρ : Rh) (I : Nat → Nat → Int32) (J : Nat → Nat → Int64) (p1 : Int32) : Option (Int32) := (if (p1 < (0 : Int32)) then some (0 : Int32) else (if ((9 : Int32) < p1) then some (0 : Int32) else some (1 : Int32)))
theorem c_X11_isRows {G : Gd} {d N : Nat} {K : Ah → Option Value → Prop} {ρ : Rh} {I : Nat → Nat → Int32} {J : Nat → Nat → Int64} {p1 : Int32} {o : Int32} (hs : Sh ρ) (hf : f_X11_isRows N ρ I J p1 = some o) (hK : K (I, J, ρ) (some (.int o))) : AM G d 0 0 mX11_isRows [.int p1] (I, J, ρ) K := by
  unfold f_X11_isRows at hf
  refine AM.intro okX11_isRows.2.2.2.1 (Nat.le_of_ble_eq_true rfl) [some (.int p1)] rfl ?_
  refine AW.iload_n dX11_isRows_0 rfl ?_
  refine AW.if_lt (tgt := 14) dX11_isRows_1 (by decide) (fun hc => ?_) (fun hc => ?_)
  · have hf := (if_pos hc).symm.trans hf
    refine AW.iconst (v := (0 : Int32)) dX11_isRows_14 (by decide) ?_
    obtain rfl := Option.some.inj hf
    exact AW.zret (st := []) dX11_isRows_15 rfl (Or.inl rfl) hK
  · have hf := (if_neg hc).symm.trans hf
    refine AW.iload_n dX11_isRows_4 rfl ?_
    refine AW.bipush (v := (9 : Int32)) dX11_isRows_5 (by decide) ?_
    refine AW.icmp_gt (tgt := 14) dX11_isRows_7 (by decide) (fun hc => ?_) (fun hc => ?_)
    · have hf := (if_pos hc).symm.trans hf
      refine AW.iconst (v := (0 : Int32)) dX11_isRows_14 (by decide) ?_
      obtain rfl := Option.some.inj hf
      exact AW.zret (st := []) dX11_isRows_15 rfl (Or.inl rfl) hK
    · have hf := (if_neg hc).symm.trans hf
      refine AW.iconst (v := (1 : Int32)) dX11_isRows_10 (by decide) ?_
      refine AW.goto (tgt := 15) dX11_isRows_11 (by decide) ?_
      obtain rfl := Option.some.inj hf
      exact AW.zret (st := []) dX11_isRows_15 rfl (Or.inr rfl) hK
def f_X11_isMan (N : Nat) (ρ : Rh) (I : Nat → Nat → Int32) (J : Nat → Nat → Int64) (p1 : Int32) : Option (Int32) := (if (p1 < (0 : Int32)) then some (0 : Int32) else (if ((I 42 0) ≤ p1) then some (0 : Int32) else some (1 : Int32)))
theorem c_X11_isMan {G : Gd} {d N : Nat} {K : Ah → Option Value → Prop} {ρ : Rh} {I : Nat → Nat → Int32} {J : Nat → Nat → Int64} {p1 : Int32} {o : Int32} (hs : Sh ρ) (hf : f_X11_isMan N ρ I J p1 = some o) (hK : K (I, J, ρ) (some (.int o))) : AM G d 0 0 mX11_isMan [.ref 32, .int p1] (I, J, ρ) K := by
  unfold f_X11_isMan at hf
  refine AM.intro okX11_isMan.2.2.2.1 (Nat.le_of_ble_eq_true rfl) [some (.ref 32), some (.int p1)] rfl ?_
  refine AW.iload_n dX11_isMan_0 rfl ?_
  refine AW.if_lt (tgt := 19) dX11_isMan_1 (by decide) (fun hc => ?_) (fun hc => ?_)
  · have hf := (if_pos hc).symm.trans hf
    refine AW.iconst (v := (0 : Int32)) dX11_isMan_19 (by decide) ?_
    obtain rfl := Option.some.inj hf
    exact AW.zret (st := []) dX11_isMan_20 rfl (Or.inl rfl) hK
  · have hf := (if_neg hc).symm.trans hf
    refine AW.iload_n dX11_isMan_4 rfl ?_
    refine AW.aload_n dX11_isMan_5 rfl ?_
    refine TW.getR fX11_50_11 hs.k32 (rf_some hs.r32_0) dX11_isMan_6 ?_
    refine TW.getI (x := (I 42 0)) fX11_71_0 hs.k42 rfl dX11_isMan_9 ?_
    refine AW.icmp_ge (tgt := 19) dX11_isMan_12 (by decide) (fun hc => ?_) (fun hc => ?_)
    · have hf := (if_pos hc).symm.trans hf
      refine AW.iconst (v := (0 : Int32)) dX11_isMan_19 (by decide) ?_
      obtain rfl := Option.some.inj hf
      exact AW.zret (st := []) dX11_isMan_20 rfl (Or.inl rfl) hK
    · have hf := (if_neg hc).symm.trans hf
      refine AW.iconst (v := (1 : Int32)) dX11_isMan_15 (by decide) ?_
      refine AW.goto (tgt := 20) dX11_isMan_16 (by decide) ?_
      obtain rfl := Option.some.inj hf
      exact AW.zret (st := []) dX11_isMan_20 rfl (Or.inr rfl) hK
def f_X11_man (N : Nat) (ρ : Rh) (I : Nat → Nat → Int32) (J : Nat → Nat → Int64) (p1 : Int32) (p2 : Int32) : Option ((Nat → Nat → Int32) × Int32) := (Option.bind (f_X11_isStore N ρ I J p1) fun v1 => (if (v1 = (0 : Int32)) then some (I, (-2 : Int32)) else (Option.bind (f_X11_isRows N ρ I J p2) fun v2 => (if (v2 = (0 : Int32)) then some (I, (-2 : Int32)) else (if ((I 42 0) < (0 : Int32)) then some (I, (-4 : Int32)) else (if ((I 42 0) < (8 : Int32)) then (if ¬ ((I 42 0) < 0 ∨ 8 ≤ tn (I 42 0)) then (if ¬ ((I 42 0) < 0 ∨ 8 ≤ tn (I 42 0)) then some ((u2 (u2 (u2 I 43 (tn (I 42 0)) p1) 44 (tn (I 42 0)) p2) 42 0 ((I 42 0) + (1 : Int32))), (((I 42 0) + (1 : Int32)) - (1 : Int32))) else none) else none) else some (I, (-4 : Int32))))))))
theorem c_X11_man {G : Gd} {d N : Nat} {K : Ah → Option Value → Prop} {ρ : Rh} {I : Nat → Nat → Int32} {J : Nat → Nat → Int64} {p1 : Int32} {p2 : Int32} {o : (Nat → Nat → Int32) × Int32} (hs : Sh ρ) (hf : f_X11_man N ρ I J p1 p2 = some o) (hK : K (o.1, J, ρ) (some (.int o.2))) : AM G (d + 1) 0 0 mX11_man [.ref 32, .int p1, .int p2] (I, J, ρ) K := by
  unfold f_X11_man at hf
  refine AM.intro okX11_man.2.2.2.1 (Nat.le_of_ble_eq_true rfl) [some (.ref 32), some (.int p1), some (.int p2)] rfl ?_
  refine AW.iload_n dX11_man_0 rfl ?_
  obtain ⟨v1, gv1, hf⟩ := ob_split hf
  refine TW.invs (as := [.int p1]) (rest := []) stX11_64 dX11_man_1 rfl rfl (by decide) (c_X11_isStore hs gv1 ?_)
  show AW G mX11_man (d + 1) 0 0 K 4 [some (.ref 32), some (.int p1), some (.int p2)] [.int v1] (I, J, ρ)
  refine AW.if_eq (tgt := 14) dX11_man_4 (by decide) (fun hc => ?_) (fun hc => ?_)
  · have hf := (if_pos hc).symm.trans hf
    refine AW.bipush (v := (-2 : Int32)) dX11_man_14 (by decide) ?_
    obtain rfl := Option.some.inj hf
    exact AW.iret (st := []) dX11_man_16 rfl hK
  · have hf := (if_neg hc).symm.trans hf
    refine AW.iload_n dX11_man_7 rfl ?_
    obtain ⟨v2, gv2, hf⟩ := ob_split hf
    refine TW.invs (as := [.int p2]) (rest := []) stX11_68 dX11_man_8 rfl rfl (by decide) (c_X11_isRows hs gv2 ?_)
    show AW G mX11_man (d + 1) 0 0 K 11 [some (.ref 32), some (.int p1), some (.int p2)] [.int v2] (I, J, ρ)
    refine AW.if_ne (tgt := 17) dX11_man_11 (by decide) (fun hc => ?_) (fun hc => ?_)
    · have hf := (if_neg hc).symm.trans hf
      refine AW.aload_n dX11_man_17 rfl ?_
      refine TW.getR fX11_50_11 hs.k32 (rf_some hs.r32_0) dX11_man_18 ?_
      refine TW.getI (x := (I 42 0)) fX11_71_0 hs.k42 rfl dX11_man_21 ?_
      refine AW.if_lt (tgt := 39) dX11_man_24 (by decide) (fun hc => ?_) (fun hc => ?_)
      · have hf := (if_pos hc).symm.trans hf
        refine AW.bipush (v := (-4 : Int32)) dX11_man_39 (by decide) ?_
        obtain rfl := Option.some.inj hf
        exact AW.iret (st := []) dX11_man_41 rfl hK
      · have hf := (if_neg hc).symm.trans hf
        refine AW.aload_n dX11_man_27 rfl ?_
        refine TW.getR fX11_50_11 hs.k32 (rf_some hs.r32_0) dX11_man_28 ?_
        refine TW.getI (x := (I 42 0)) fX11_71_0 hs.k42 rfl dX11_man_31 ?_
        refine AW.bipush (v := (8 : Int32)) dX11_man_34 (by decide) ?_
        refine AW.icmp_lt (tgt := 42) dX11_man_36 (by decide) (fun hc => ?_) (fun hc => ?_)
        · have hf := (if_pos hc).symm.trans hf
          refine AW.aload_n dX11_man_42 rfl ?_
          refine TW.getR fX11_50_11 hs.k32 (rf_some hs.r32_0) dX11_man_43 ?_
          refine TW.getR fX11_74_0 hs.k42 (rf_some hs.r42_1) dX11_man_46 ?_
          refine AW.aload_n dX11_man_49 rfl ?_
          refine TW.getR fX11_50_11 hs.k32 (rf_some hs.r32_0) dX11_man_50 ?_
          refine TW.getI (x := (I 42 0)) fX11_71_0 hs.k42 rfl dX11_man_53 ?_
          refine AW.iload_n dX11_man_56 rfl ?_
          obtain ⟨h3, hf⟩ := gd_split hf
          refine TW.iast hs.k43 h3 dX11_man_57 ?_
          show AW G mX11_man (d + 1) 0 0 K 58 [some (.ref 32), some (.int p1), some (.int p2)] [] ((u2 I 43 (tn (I 42 0)) p1), J, ρ)
          refine AW.aload_n dX11_man_58 rfl ?_
          refine TW.getR fX11_50_11 hs.k32 (rf_some hs.r32_0) dX11_man_59 ?_
          refine TW.getR fX11_78_0 hs.k42 (rf_some hs.r42_2) dX11_man_62 ?_
          refine AW.aload_n dX11_man_65 rfl ?_
          refine TW.getR fX11_50_11 hs.k32 (rf_some hs.r32_0) dX11_man_66 ?_
          refine TW.getI (x := (I 42 0)) fX11_71_0 hs.k42 (by first | rfl | (simp [u2_ap]; done)) dX11_man_69 ?_
          refine AW.iload_n dX11_man_72 rfl ?_
          obtain ⟨h4, hf⟩ := gd_split hf
          refine TW.iast hs.k44 h4 dX11_man_73 ?_
          show AW G mX11_man (d + 1) 0 0 K 74 [some (.ref 32), some (.int p1), some (.int p2)] [] ((u2 (u2 I 43 (tn (I 42 0)) p1) 44 (tn (I 42 0)) p2), J, ρ)
          refine AW.aload_n dX11_man_74 rfl ?_
          refine TW.getR fX11_50_11 hs.k32 (rf_some hs.r32_0) dX11_man_75 ?_
          refine AW.dup dX11_man_78 rfl ?_
          refine TW.getI (x := (I 42 0)) fX11_71_0 hs.k42 (by first | rfl | (simp [u2_ap]; done)) dX11_man_79 ?_
          refine AW.iconst (v := (1 : Int32)) dX11_man_82 (by decide) ?_
          refine AW.iadd dX11_man_83 ?_
          refine TW.putI fX11_71_0 hs.k42 (Or.inl rfl) dX11_man_84 ?_
          show AW G mX11_man (d + 1) 0 0 K 87 [some (.ref 32), some (.int p1), some (.int p2)] [] ((u2 (u2 (u2 I 43 (tn (I 42 0)) p1) 44 (tn (I 42 0)) p2) 42 0 ((I 42 0) + (1 : Int32))), J, ρ)
          refine AW.aload_n dX11_man_87 rfl ?_
          refine TW.getR fX11_50_11 hs.k32 (rf_some hs.r32_0) dX11_man_88 ?_
          refine TW.getI (x := ((I 42 0) + (1 : Int32))) fX11_71_0 hs.k42 (by first | rfl | (simp [u2_ap]; done)) dX11_man_91 ?_
          refine AW.iconst (v := (1 : Int32)) dX11_man_94 (by decide) ?_
          refine AW.isub dX11_man_95 ?_
          obtain rfl := Option.some.inj hf
          exact AW.iret (st := []) dX11_man_96 rfl hK
        · have hf := (if_neg hc).symm.trans hf
          refine AW.bipush (v := (-4 : Int32)) dX11_man_39 (by decide) ?_
          obtain rfl := Option.some.inj hf
          exact AW.iret (st := []) dX11_man_41 rfl hK
    · have hf := (if_pos hc).symm.trans hf
      refine AW.bipush (v := (-2 : Int32)) dX11_man_14 (by decide) ?_
      obtain rfl := Option.some.inj hf
      exact AW.iret (st := []) dX11_man_16 rfl hK
def f_X11_exchange (N : Nat) (ρ : Rh) (I : Nat → Nat → Int32) (J : Nat → Nat → Int64) (p1 : Nat) (p2 : Int32) (p3 : Int32) : Option ((Nat → Nat → Int32) × Int32) := (if ρ.2.1 p1 = (1, (ρ.2.1 p1).2) then (if ¬ (p2 < 0 ∨ (ρ.2.1 p1).2 ≤ tn p2) then (if ¬ (p2 < 0 ∨ (ρ.2.1 p1).2 ≤ tn p2) then some ((u2 I p1 (tn p2) p3), (I p1 (tn p2))) else none) else none) else none)
theorem c_X11_exchange {G : Gd} {d N : Nat} {K : Ah → Option Value → Prop} {ρ : Rh} {I : Nat → Nat → Int32} {J : Nat → Nat → Int64} {p1 : Nat} {p2 : Int32} {p3 : Int32} {o : (Nat → Nat → Int32) × Int32} (hs : Sh ρ) (hf : f_X11_exchange N ρ I J p1 p2 p3 = some o) (hK : K (o.1, J, ρ) (some (.int o.2))) : AM G d 0 0 mX11_exchange [.ref p1, .int p2, .int p3] (I, J, ρ) K := by
  unfold f_X11_exchange at hf
  refine AM.intro okX11_exchange.2.2.2.1 (Nat.le_of_ble_eq_true rfl) [some (.ref p1), some (.int p2), some (.int p3), none] rfl ?_
  refine AW.aload_n dX11_exchange_0 rfl ?_
  refine AW.iload_n dX11_exchange_1 rfl ?_
  obtain ⟨h1, hf⟩ := gd_split hf
  obtain ⟨h2, hf⟩ := gd_split hf
  refine TW.iald (x := (I p1 (tn p2))) h1 h2 rfl dX11_exchange_2 ?_
  refine AW.istore_n (ls' := [some (.ref p1), some (.int p2), some (.int p3), some (.int (I p1 (tn p2)))]) dX11_exchange_3 (Nat.le_of_ble_eq_true rfl) rfl ?_
  refine AW.aload_n dX11_exchange_4 rfl ?_
  refine AW.iload_n dX11_exchange_5 rfl ?_
  refine AW.iload_n dX11_exchange_6 rfl ?_
  obtain ⟨h3, hf⟩ := gd_split hf
  refine TW.iast h1 h3 dX11_exchange_7 ?_
  show AW G mX11_exchange d 0 0 K 8 [some (.ref p1), some (.int p2), some (.int p3), some (.int (I p1 (tn p2)))] [] ((u2 I p1 (tn p2) p3), J, ρ)
  refine AW.iload_n dX11_exchange_8 rfl ?_
  obtain rfl := Option.some.inj hf
  exact AW.iret (st := []) dX11_exchange_9 rfl hK
def f_X11_set (N : Nat) (ρ : Rh) (I : Nat → Nat → Int32) (J : Nat → Nat → Int64) (p1 : Int32) (p2 : Int32) (p3 : Int32) : Option ((Nat → Nat → Int32) × Int32) := (Option.bind (f_X11_isMan N ρ I J p1) fun v1 => (if (v1 = (0 : Int32)) then some (I, (-5 : Int32)) else (((if (p2 = (0 : Int32)) then (Option.bind (f_X11_isStore N ρ I J p3) fun v2 => (if (v2 = (0 : Int32)) then some (Sum.inr ()) else (Option.bind (f_X11_exchange N ρ I J 43 p1 p3) fun v3 => some (Sum.inl (v3.1, v3.2))))) else some (Sum.inr ())) : Option (((Nat → Nat → Int32) × Int32) ⊕ (Unit))).bind fun j4 => scase j4 (fun r => some r) (fun j4 => (if (p2 = (1 : Int32)) then (Option.bind (f_X11_isRows N ρ I J p3) fun v5 => (if (v5 = (0 : Int32)) then some (I, (-7 : Int32)) else (Option.bind (f_X11_exchange N ρ I J 44 p1 p3) fun v6 => some (v6.1, v6.2)))) else some (I, (-7 : Int32)))))))
theorem c_X11_set {G : Gd} {d N : Nat} {K : Ah → Option Value → Prop} {ρ : Rh} {I : Nat → Nat → Int32} {J : Nat → Nat → Int64} {p1 : Int32} {p2 : Int32} {p3 : Int32} {o : (Nat → Nat → Int32) × Int32} (hs : Sh ρ) (hf : f_X11_set N ρ I J p1 p2 p3 = some o) (hK : K (o.1, J, ρ) (some (.int o.2))) : AM G (d + 1) 0 0 mX11_set [.ref 32, .int p1, .int p2, .int p3] (I, J, ρ) K := by
  unfold f_X11_set at hf
  refine AM.intro okX11_set.2.2.2.1 (Nat.le_of_ble_eq_true rfl) [some (.ref 32), some (.int p1), some (.int p2), some (.int p3)] rfl ?_
  refine AW.aload_n dX11_set_0 rfl ?_
  refine AW.iload_n dX11_set_1 rfl ?_
  obtain ⟨v1, gv1, hf⟩ := ob_split hf
  refine TW.invv (as := [.int p1]) (rest := []) viX11_81_11 hs.k32 dX11_set_2 rfl rfl (by decide) (c_X11_isMan hs gv1 ?_)
  show AW G mX11_set (d + 1) 0 0 K 5 [some (.ref 32), some (.int p1), some (.int p2), some (.int p3)] [.int v1] (I, J, ρ)
  refine AW.if_ne (tgt := 11) dX11_set_5 (by decide) (fun hc => ?_) (fun hc => ?_)
  · have hf := (if_neg hc).symm.trans hf
    obtain ⟨j4, gj4, hf⟩ := ob_split hf
    have Kj4 : scase j4 (fun r => K (r.1, J, ρ) (some (.int r.2))) (fun j4 => AW G mX11_set (d + 1) 0 0 K 35 [some (.ref 32), some (.int p1), some (.int p2), some (.int p3)] [] (I, J, ρ)) := by
      rcases j4 with r | j4
      · obtain rfl := Option.some.inj hf; exact hK
      · show AW G mX11_set (d + 1) 0 0 K 35 [some (.ref 32), some (.int p1), some (.int p2), some (.int p3)] [] (I, J, ρ)
        refine AW.iload_n dX11_set_35 rfl ?_
        refine AW.iconst (v := (1 : Int32)) dX11_set_36 (by decide) ?_
        refine AW.icmp_ne (tgt := 60) dX11_set_37 (by decide) (fun hc => ?_) (fun hc => ?_)
        · have hf := (if_neg hc).symm.trans hf
          refine AW.bipush (v := (-7 : Int32)) dX11_set_60 (by decide) ?_
          obtain rfl := Option.some.inj hf
          exact AW.iret (st := []) dX11_set_62 rfl hK
        · have hf := (if_pos hc).symm.trans hf
          refine AW.iload_n dX11_set_40 rfl ?_
          obtain ⟨v5, gv5, hf⟩ := ob_split hf
          refine TW.invs (as := [.int p3]) (rest := []) stX11_68 dX11_set_41 rfl rfl (by decide) (c_X11_isRows hs gv5 ?_)
          show AW G mX11_set (d + 1) 0 0 K 44 [some (.ref 32), some (.int p1), some (.int p2), some (.int p3)] [.int v5] (I, J, ρ)
          refine AW.if_eq (tgt := 60) dX11_set_44 (by decide) (fun hc => ?_) (fun hc => ?_)
          · have hf := (if_pos hc).symm.trans hf
            refine AW.bipush (v := (-7 : Int32)) dX11_set_60 (by decide) ?_
            obtain rfl := Option.some.inj hf
            exact AW.iret (st := []) dX11_set_62 rfl hK
          · have hf := (if_neg hc).symm.trans hf
            refine AW.aload_n dX11_set_47 rfl ?_
            refine TW.getR fX11_50_11 hs.k32 (rf_some hs.r32_0) dX11_set_48 ?_
            refine TW.getR fX11_78_0 hs.k42 (rf_some hs.r42_2) dX11_set_51 ?_
            refine AW.iload_n dX11_set_54 rfl ?_
            refine AW.iload_n dX11_set_55 rfl ?_
            obtain ⟨v6, gv6, hf⟩ := ob_split hf
            refine TW.invs (as := [.ref 44, .int p1, .int p3]) (rest := []) stX11_84 dX11_set_56 rfl rfl (by decide) (c_X11_exchange hs gv6 ?_)
            show AW G mX11_set (d + 1) 0 0 K 59 [some (.ref 32), some (.int p1), some (.int p2), some (.int p3)] [.int v6.2] (v6.1, J, ρ)
            obtain rfl := Option.some.inj hf
            exact AW.iret (st := []) dX11_set_59 rfl hK
    clear hf; have hf := gj4; clear gj4
    refine AW.iload_n dX11_set_11 rfl ?_
    refine AW.if_ne (tgt := 35) dX11_set_12 (by decide) (fun hc => ?_) (fun hc => ?_)
    · have hf := (if_neg hc).symm.trans hf
      obtain rfl := Option.some.inj hf
      exact AW.weak _ (by exact (And.intro rfl (And.intro rfl (And.intro rfl (And.intro rfl trivial))))) Kj4
    · have hf := (if_pos hc).symm.trans hf
      refine AW.iload_n dX11_set_15 rfl ?_
      obtain ⟨v2, gv2, hf⟩ := ob_split hf
      refine TW.invs (as := [.int p3]) (rest := []) stX11_64 dX11_set_16 rfl rfl (by decide) (c_X11_isStore hs gv2 ?_)
      show AW G mX11_set (d + 1) 0 0 K 19 [some (.ref 32), some (.int p1), some (.int p2), some (.int p3)] [.int v2] (I, J, ρ)
      refine AW.if_eq (tgt := 35) dX11_set_19 (by decide) (fun hc => ?_) (fun hc => ?_)
      · have hf := (if_pos hc).symm.trans hf
        obtain rfl := Option.some.inj hf
        exact AW.weak _ (by exact (And.intro rfl (And.intro rfl (And.intro rfl (And.intro rfl trivial))))) Kj4
      · have hf := (if_neg hc).symm.trans hf
        refine AW.aload_n dX11_set_22 rfl ?_
        refine TW.getR fX11_50_11 hs.k32 (rf_some hs.r32_0) dX11_set_23 ?_
        refine TW.getR fX11_74_0 hs.k42 (rf_some hs.r42_1) dX11_set_26 ?_
        refine AW.iload_n dX11_set_29 rfl ?_
        refine AW.iload_n dX11_set_30 rfl ?_
        obtain ⟨v3, gv3, hf⟩ := ob_split hf
        refine TW.invs (as := [.ref 43, .int p1, .int p3]) (rest := []) stX11_84 dX11_set_31 rfl rfl (by decide) (c_X11_exchange hs gv3 ?_)
        show AW G mX11_set (d + 1) 0 0 K 34 [some (.ref 32), some (.int p1), some (.int p2), some (.int p3)] [.int v3.2] (v3.1, J, ρ)
        obtain rfl := Option.some.inj hf
        exact AW.iret (st := []) dX11_set_34 rfl Kj4
  · have hf := (if_pos hc).symm.trans hf
    refine AW.bipush (v := (-5 : Int32)) dX11_set_8 (by decide) ?_
    obtain rfl := Option.some.inj hf
    exact AW.iret (st := []) dX11_set_10 rfl hK
