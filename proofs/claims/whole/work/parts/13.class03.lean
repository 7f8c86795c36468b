/-! ===== methods 13.class 3 ===== -/
def f_X9_toldFor (N : Nat) (ρ : Rh) (I : Nat → Nat → Int32) (J : Nat → Nat → Int64) (p0 : Nat) (p1 : Int32) : Option (Int32) := (if (p1 < (0 : Int32)) then some (0 : Int32) else (if ((8 : Int32) ≤ p1) then some (0 : Int32) else (if ρ.2.1 p0 = (0, 9) then (Option.bind (ρ.1 p0 2) fun a2 => (if ρ.2.1 a2 = (1, (ρ.2.1 a2).2) then (if ¬ (p1 < 0 ∨ (ρ.2.1 a2).2 ≤ tn p1) then some (I a2 (tn p1)) else none) else none)) else none)))
theorem c_X9_toldFor {G : Gd} {d N : Nat} {K : Ah → Option Value → Prop} {ρ : Rh} {I : Nat → Nat → Int32} {J : Nat → Nat → Int64} {p0 : Nat} {p1 : Int32} {o : Int32} (hs : Sh ρ) (hf : f_X9_toldFor N ρ I J p0 p1 = some o) (hK : K (I, J, ρ) (some (.int o))) : AM G d 0 0 mX9_toldFor [.ref p0, .int p1] (I, J, ρ) K := by
  unfold f_X9_toldFor at hf
  refine AM.intro okX9_toldFor.2.2.2.1 (Nat.le_of_ble_eq_true rfl) [some (.ref p0), some (.int p1)] rfl ?_
  refine AW.iload_n dX9_toldFor_0 rfl ?_
  refine AW.if_lt (tgt := 19) dX9_toldFor_1 (by decide) (fun hc => ?_) (fun hc => ?_)
  · have hf := (if_pos hc).symm.trans hf
    refine AW.iconst (v := (0 : Int32)) dX9_toldFor_19 (by decide) ?_
    obtain rfl := Option.some.inj hf
    exact AW.iret (st := []) dX9_toldFor_20 rfl hK
  · have hf := (if_neg hc).symm.trans hf
    refine AW.iload_n dX9_toldFor_4 rfl ?_
    refine AW.bipush (v := (8 : Int32)) dX9_toldFor_5 (by decide) ?_
    refine AW.icmp_ge (tgt := 19) dX9_toldFor_7 (by decide) (fun hc => ?_) (fun hc => ?_)
    · have hf := (if_pos hc).symm.trans hf
      refine AW.iconst (v := (0 : Int32)) dX9_toldFor_19 (by decide) ?_
      obtain rfl := Option.some.inj hf
      exact AW.iret (st := []) dX9_toldFor_20 rfl hK
    · have hf := (if_neg hc).symm.trans hf
      refine AW.aload_n dX9_toldFor_10 rfl ?_
      obtain ⟨h1, hf⟩ := gd_split hf
      obtain ⟨a2, ga2, hf⟩ := ob_split hf
      refine TW.getR (v := .ref a2) fX9_9_9 h1 (rf_some ga2) dX9_toldFor_11 ?_
      refine AW.iload_n dX9_toldFor_14 rfl ?_
      obtain ⟨h3, hf⟩ := gd_split hf
      obtain ⟨h4, hf⟩ := gd_split hf
      refine TW.iald (x := (I a2 (tn p1))) h3 h4 rfl dX9_toldFor_15 ?_
      refine AW.goto (tgt := 20) dX9_toldFor_16 (by decide) ?_
      obtain rfl := Option.some.inj hf
      exact AW.iret (st := []) dX9_toldFor_20 rfl hK
def f_X9_share (N : Nat) (ρ : Rh) (I : Nat → Nat → Int32) (J : Nat → Nat → Int64) (p0 : Nat) (p2 : Int32) : Option (Int32) := (Option.bind (f_X9_toldFor N ρ I J p0 p2) fun v1 => (if ρ.2.1 p0 = (0, 9) then some v1 else none))
theorem c_X9_share {G : Gd} {d N : Nat} {K : Ah → Option Value → Prop} {ρ : Rh} {I : Nat → Nat → Int32} {J : Nat → Nat → Int64} {p0 : Nat} {p2 : Int32} {o : Int32} (hs : Sh ρ) (hf : f_X9_share N ρ I J p0 p2 = some o) (hK : K (I, J, ρ) (some (.int o))) : AM G (d + 1) 0 0 mX9_share [.ref p0, .ref 48, .int p2] (I, J, ρ) K := by
  unfold f_X9_share at hf
  refine AM.intro okX9_share.2.2.2.1 (Nat.le_of_ble_eq_true rfl) [some (.ref p0), some (.ref 48), some (.int p2)] rfl ?_
  refine AW.aload_n dX9_share_0 rfl ?_
  refine AW.iload_n dX9_share_1 rfl ?_
  obtain ⟨v1, gv1, hf⟩ := ob_split hf
  obtain ⟨h2, hf⟩ := gd_split hf
  refine TW.invv (as := [.int p2]) (rest := []) viX9_36_9 h2 dX9_share_2 rfl rfl (Nat.le_of_ble_eq_true rfl) (c_X9_toldFor hs gv1 ?_)
  show AW G mX9_share (d + 1) 0 0 K 5 [some (.ref p0), some (.ref 48), some (.int p2)] [.int v1] (I, J, ρ)
  obtain rfl := Option.some.inj hf
  exact AW.iret (st := []) dX9_share_5 rfl hK
def f_X10_carryOver (N : Nat) (ρ : Rh) (I : Nat → Nat → Int32) (J : Nat → Nat → Int64) : Option ((Nat → Nat → Int32)) := (if ¬ ((I 48 13) < 0 ∨ 13 ≤ tn (I 48 13)) then (if ¬ (((I 48 13) + (1 : Int32)) < 0 ∨ 13 ≤ tn ((I 48 13) + (1 : Int32))) then (if ¬ (((up I (50 + (tn ((I 48 13) + (1 : Int32)))) (cpy (I (50 + (tn (I 48 13)))) (I (50 + (tn ((I 48 13) + (1 : Int32))))) (tn (0 : Int32)) (tn (0 : Int32)) (tn (8 : Int32)))) 48 13) < 0 ∨ 12 ≤ tn ((up I (50 + (tn ((I 48 13) + (1 : Int32)))) (cpy (I (50 + (tn (I 48 13)))) (I (50 + (tn ((I 48 13) + (1 : Int32))))) (tn (0 : Int32)) (tn (0 : Int32)) (tn (8 : Int32)))) 48 13)) then (Option.bind (f_J7_fill_53178 N ρ (up I (50 + (tn ((I 48 13) + (1 : Int32)))) (cpy (I (50 + (tn (I 48 13)))) (I (50 + (tn ((I 48 13) + (1 : Int32))))) (tn (0 : Int32)) (tn (0 : Int32)) (tn (8 : Int32)))) J (64 + (tn ((up I (50 + (tn ((I 48 13) + (1 : Int32)))) (cpy (I (50 + (tn (I 48 13)))) (I (50 + (tn ((I 48 13) + (1 : Int32))))) (tn (0 : Int32)) (tn (0 : Int32)) (tn (8 : Int32)))) 48 13))) (0 : Int32)) fun v7 => (if ¬ ((v7 48 13) < 0 ∨ 13 ≤ tn (v7 48 13)) then (if ¬ (((v7 48 13) + (1 : Int32)) < 0 ∨ 13 ≤ tn ((v7 48 13) + (1 : Int32))) then (if ¬ ((v7 48 13) < 0 ∨ 13 ≤ tn (v7 48 13)) then (if ¬ (((v7 48 13) + (1 : Int32)) < 0 ∨ 13 ≤ tn ((v7 48 13) + (1 : Int32))) then some (u2 (u2 v7 76 (tn ((v7 48 13) + (1 : Int32))) (v7 76 (tn (v7 48 13)))) 77 (tn ((v7 48 13) + (1 : Int32))) (v7 77 (tn (v7 48 13)))) else none) else none) else none) else none)) else none) else none) else none)
theorem c_X10_carryOver {G : Gd} {d N : Nat} {K : Ah → Option Value → Prop} {ρ : Rh} {I : Nat → Nat → Int32} {J : Nat → Nat → Int64} {o : (Nat → Nat → Int32)} (hs : Sh ρ) (hf : f_X10_carryOver N ρ I J = some o) (hK : K (o, J, ρ) none) : AM G (d + 1) 0 0 mX10_carryOver [.ref 48] (I, J, ρ) K := by
  unfold f_X10_carryOver at hf
  refine AM.intro okX10_carryOver.2.2.2.1 (Nat.le_of_ble_eq_true rfl) [some (.ref 48)] rfl ?_
  refine AW.aload_n dX10_carryOver_0 rfl ?_
  refine TW.getR fX10_11_10 hs.k48 (rf_some hs.r48_1) dX10_carryOver_1 ?_
  refine AW.aload_n dX10_carryOver_4 rfl ?_
  refine TW.getI (x := (I 48 13)) fX10_77_10 hs.k48 rfl dX10_carryOver_5 ?_
  obtain ⟨h1, hf⟩ := gd_split hf
  have hl2 : (tn (I 48 13)) < 13 := vp_lt h1
  refine TW.aald (t := 3) hs.k49 (by decide) h1 (rf_some (hs.e49 hl2)) dX10_carryOver_8 ?_
  refine AW.iconst (v := (0 : Int32)) dX10_carryOver_9 (by decide) ?_
  refine AW.aload_n dX10_carryOver_10 rfl ?_
  refine TW.getR fX10_11_10 hs.k48 (rf_some hs.r48_1) dX10_carryOver_11 ?_
  refine AW.aload_n dX10_carryOver_14 rfl ?_
  refine TW.getI (x := (I 48 13)) fX10_77_10 hs.k48 rfl dX10_carryOver_15 ?_
  refine AW.iconst (v := (1 : Int32)) dX10_carryOver_18 (by decide) ?_
  refine AW.iadd dX10_carryOver_19 ?_
  obtain ⟨h3, hf⟩ := gd_split hf
  have hl4 : (tn ((I 48 13) + (1 : Int32))) < 13 := vp_lt h3
  refine TW.aald (t := 3) hs.k49 (by decide) h3 (rf_some (hs.e49 hl4)) dX10_carryOver_20 ?_
  refine AW.iconst (v := (0 : Int32)) dX10_carryOver_21 (by decide) ?_
  refine AW.bipush (v := (8 : Int32)) dX10_carryOver_22 (by decide) ?_
  refine TW.copyI cpX10_71 (hs.ek49 hl2) (hs.ek49 hl4) (by decide) (by decide) (by decide) (by decide) (by decide) (Nat.le_of_ble_eq_true rfl) dX10_carryOver_24 ?_
  show AW G mX10_carryOver (d + 1) 0 0 K 27 [some (.ref 48)] [] ((up I (50 + (tn ((I 48 13) + (1 : Int32)))) (cpy (I (50 + (tn (I 48 13)))) (I (50 + (tn ((I 48 13) + (1 : Int32))))) (tn (0 : Int32)) (tn (0 : Int32)) (tn (8 : Int32)))), J, ρ)
  refine AW.aload_n dX10_carryOver_27 rfl ?_
  refine TW.getR fX10_16_10 hs.k48 (rf_some hs.r48_2) dX10_carryOver_28 ?_
  refine AW.aload_n dX10_carryOver_31 rfl ?_
  refine TW.getI (x := ((up I (50 + (tn ((I 48 13) + (1 : Int32)))) (cpy (I (50 + (tn (I 48 13)))) (I (50 + (tn ((I 48 13) + (1 : Int32))))) (tn (0 : Int32)) (tn (0 : Int32)) (tn (8 : Int32)))) 48 13)) fX10_77_10 hs.k48 rfl dX10_carryOver_32 ?_
  obtain ⟨h5, hf⟩ := gd_split hf
  have hl6 : (tn ((up I (50 + (tn ((I 48 13) + (1 : Int32)))) (cpy (I (50 + (tn (I 48 13)))) (I (50 + (tn ((I 48 13) + (1 : Int32))))) (tn (0 : Int32)) (tn (0 : Int32)) (tn (8 : Int32)))) 48 13)) < 12 := vp_lt h5
  refine TW.aald (t := 3) hs.k63 (by decide) h5 (rf_some (hs.e63 hl6)) dX10_carryOver_35 ?_
  refine AW.iconst (v := (0 : Int32)) dX10_carryOver_36 (by decide) ?_
  obtain ⟨v7, gv7, hf⟩ := ob_split hf
  refine TW.invs (as := [.ref (64 + (tn ((up I (50 + (tn ((I 48 13) + (1 : Int32)))) (cpy (I (50 + (tn (I 48 13)))) (I (50 + (tn ((I 48 13) + (1 : Int32))))) (tn (0 : Int32)) (tn (0 : Int32)) (tn (8 : Int32)))) 48 13))), .int (0 : Int32)]) (rest := []) stX10_105 dX10_carryOver_37 rfl rfl (Nat.le_of_ble_eq_true rfl) (c_J7_fill_53178 hs gv7 ?_)
  show AW G mX10_carryOver (d + 1) 0 0 K 40 [some (.ref 48)] [] (v7, J, ρ)
  refine AW.aload_n dX10_carryOver_40 rfl ?_
  refine TW.getR fX10_19_10 hs.k48 (rf_some hs.r48_3) dX10_carryOver_41 ?_
  refine AW.aload_n dX10_carryOver_44 rfl ?_
  refine TW.getI (x := (v7 48 13)) fX10_77_10 hs.k48 rfl dX10_carryOver_45 ?_
  refine AW.iconst (v := (1 : Int32)) dX10_carryOver_48 (by decide) ?_
  refine AW.iadd dX10_carryOver_49 ?_
  refine AW.aload_n dX10_carryOver_50 rfl ?_
  refine TW.getR fX10_19_10 hs.k48 (rf_some hs.r48_3) dX10_carryOver_51 ?_
  refine AW.aload_n dX10_carryOver_54 rfl ?_
  refine TW.getI (x := (v7 48 13)) fX10_77_10 hs.k48 rfl dX10_carryOver_55 ?_
  obtain ⟨h8, hf⟩ := gd_split hf
  refine TW.iald (x := (v7 76 (tn (v7 48 13)))) hs.k76 h8 rfl dX10_carryOver_58 ?_
  obtain ⟨h9, hf⟩ := gd_split hf
  refine TW.iast hs.k76 h9 dX10_carryOver_59 ?_
  show AW G mX10_carryOver (d + 1) 0 0 K 60 [some (.ref 48)] [] ((u2 v7 76 (tn ((v7 48 13) + (1 : Int32))) (v7 76 (tn (v7 48 13)))), J, ρ)
  refine AW.aload_n dX10_carryOver_60 rfl ?_
  refine TW.getR fX10_23_10 hs.k48 (rf_some hs.r48_4) dX10_carryOver_61 ?_
  refine AW.aload_n dX10_carryOver_64 rfl ?_
  refine TW.getI (x := (v7 48 13)) fX10_77_10 hs.k48 (u2_ne (by decide)) dX10_carryOver_65 ?_
  refine AW.iconst (v := (1 : Int32)) dX10_carryOver_68 (by decide) ?_
  refine AW.iadd dX10_carryOver_69 ?_
  refine AW.aload_n dX10_carryOver_70 rfl ?_
  refine TW.getR fX10_23_10 hs.k48 (rf_some hs.r48_4) dX10_carryOver_71 ?_
  refine AW.aload_n dX10_carryOver_74 rfl ?_
  refine TW.getI (x := (v7 48 13)) fX10_77_10 hs.k48 (u2_ne (by decide)) dX10_carryOver_75 ?_
  obtain ⟨h10, hf⟩ := gd_split hf
  refine TW.iald (x := (v7 77 (tn (v7 48 13)))) hs.k77 h10 (u2_ne (by decide)) dX10_carryOver_78 ?_
  obtain ⟨h11, hf⟩ := gd_split hf
  refine TW.iast hs.k77 h11 dX10_carryOver_79 ?_
  show AW G mX10_carryOver (d + 1) 0 0 K 80 [some (.ref 48)] [] ((u2 (u2 v7 76 (tn ((v7 48 13) + (1 : Int32))) (v7 76 (tn (v7 48 13)))) 77 (tn ((v7 48 13) + (1 : Int32))) (v7 77 (tn (v7 48 13)))), J, ρ)
  obtain rfl := Option.some.inj hf
  exact AW.vret (st := []) dX10_carryOver_80 rfl hK
def f_any_share (N : Nat) (ρ : Rh) (I : Nat → Nat → Int32) (J : Nat → Nat → Int64) (a : Nat) (m : Int32) : Option Int32 := if isR (ρ.2.1 a) then (if (ρ.2.1 a).2 = 6 then f_X6_share N ρ I J a m else (if (ρ.2.1 a).2 = 5 then f_X5_share_5 N ρ I J a m else (if (ρ.2.1 a).2 = 4 then f_X4_share_4 N ρ I J a m else (if (ρ.2.1 a).2 = 3 then f_X3_share N ρ I J a m else (if (ρ.2.1 a).2 = 9 then f_X9_share N ρ I J a m else f_X1_share N ρ I J a m))))) else none
theorem TW.any_share {G : Gd} {d N pc a : Nat} {m v : Int32} {K : Ah → Option Value → Prop} {ls : List (Option Value)} {rest : List Value} {ρ : Rh} {I : Nat → Nat → Int32} {J : Nat → Nat → Int64} (hs : Sh ρ) (hd : decode mX10_drink.2.1 pc = .ok (.invokevirtual 124, 3)) (hg : f_any_share N ρ I J a m = some v) (hr : (rest.map fun v => v.category).sum ≤ 8) (kk : AW G mX10_drink (d + 3) 0 0 K (pc + 3) ls (.int v :: rest) (I, J, ρ)) : AW G mX10_drink (d + 3) 0 0 K pc ls (.int m :: .ref 48 :: .ref a :: rest) (I, J, ρ) := by
  unfold f_any_share at hg
  obtain ⟨⟨h0, h⟩, hg⟩ := gd_split hg
  rcases h with h | h | h | h | h | h
  · have hg : f_X6_share N ρ I J a m = some v := by rw [h] at hg; exact hg
    exact TW.invv (as := [.ref 48, .int m]) (rest := rest) viX10_124_6 (Prod.ext h0 h) hd rfl rfl hr (c_X6_share hs hg kk)
  · have hg : f_X5_share_5 N ρ I J a m = some v := by rw [h] at hg; exact hg
    exact TW.invu (as := [.ref 48, .int m]) (rest := rest) vuX10_124_5 (Prod.ext h0 h) hd rfl rfl hr (c_X5_share_5 hs hg kk)
  · have hg : f_X4_share_4 N ρ I J a m = some v := by rw [h] at hg; exact hg
    exact TW.invu (as := [.ref 48, .int m]) (rest := rest) vuX10_124_4 (Prod.ext h0 h) hd rfl rfl hr (c_X4_share_4 hs hg kk)
  · have hg : f_X3_share N ρ I J a m = some v := by rw [h] at hg; exact hg
    exact TW.invu (as := [.ref 48, .int m]) (rest := rest) vuX10_124_3 (Prod.ext h0 h) hd rfl rfl hr (c_X3_share hs hg kk)
  · have hg : f_X9_share N ρ I J a m = some v := by rw [h] at hg; exact hg
    exact TW.invu (as := [.ref 48, .int m]) (rest := rest) vuX10_124_9 (Prod.ext h0 h) hd rfl rfl hr (c_X9_share hs hg kk)
  · have hg : f_X1_share N ρ I J a m = some v := by rw [h] at hg; exact hg
    exact TW.invu (as := [.ref 48, .int m]) (rest := rest) vuX10_124_1 (Prod.ext h0 h) hd rfl rfl hr (c_X1_share hs hg kk)
def f_X10_drinks (N : Nat) (ρ : Rh) (I : Nat → Nat → Int32) (J : Nat → Nat → Int64) (p1 : Int32) : Option (Int32) := (if ¬ ((I 48 13) < 0 ∨ 13 ≤ tn (I 48 13)) then (if ¬ (p1 < 0 ∨ 8 ≤ tn p1) then (if ((I (50 + (tn (I 48 13))) (tn p1)) ≤ (0 : Int32)) then some (0 : Int32) else (if ((((I 48 10) >>> (p1 &&& 31)) &&& (1 : Int32)) = (1 : Int32)) then some (1 : Int32) else some (0 : Int32))) else none) else none)
theorem c_X10_drinks {G : Gd} {d N : Nat} {K : Ah → Option Value → Prop} {ρ : Rh} {I : Nat → Nat → Int32} {J : Nat → Nat → Int64} {p1 : Int32} {o : Int32} (hs : Sh ρ) (hf : f_X10_drinks N ρ I J p1 = some o) (hK : K (I, J, ρ) (some (.int o))) : AM G d 0 0 mX10_drinks [.ref 48, .int p1] (I, J, ρ) K := by
  unfold f_X10_drinks at hf
  refine AM.intro okX10_drinks.2.2.2.1 (Nat.le_of_ble_eq_true rfl) [some (.ref 48), some (.int p1)] rfl ?_
  refine AW.aload_n dX10_drinks_0 rfl ?_
  refine TW.getR fX10_11_10 hs.k48 (rf_some hs.r48_1) dX10_drinks_1 ?_
  refine AW.aload_n dX10_drinks_4 rfl ?_
  refine TW.getI (x := (I 48 13)) fX10_77_10 hs.k48 rfl dX10_drinks_5 ?_
  obtain ⟨h1, hf⟩ := gd_split hf
  have hl2 : (tn (I 48 13)) < 13 := vp_lt h1
  refine TW.aald (t := 3) hs.k49 (by decide) h1 (rf_some (hs.e49 hl2)) dX10_drinks_8 ?_
  refine AW.iload_n dX10_drinks_9 rfl ?_
  obtain ⟨h3, hf⟩ := gd_split hf
  refine TW.iald (x := (I (50 + (tn (I 48 13))) (tn p1))) (hs.ek49 hl2) h3 rfl dX10_drinks_10 ?_
  refine AW.if_le (tgt := 30) dX10_drinks_11 (by decide) (fun hc => ?_) (fun hc => ?_)
  · have hf := (if_pos hc).symm.trans hf
    refine AW.iconst (v := (0 : Int32)) dX10_drinks_30 (by decide) ?_
    obtain rfl := Option.some.inj hf
    exact AW.zret (st := []) dX10_drinks_31 rfl (Or.inl rfl) hK
  · have hf := (if_neg hc).symm.trans hf
    refine AW.aload_n dX10_drinks_14 rfl ?_
    refine TW.getI (x := (I 48 10)) fX10_57_10 hs.k48 rfl dX10_drinks_15 ?_
    refine AW.iload_n dX10_drinks_18 rfl ?_
    refine AW.ishr dX10_drinks_19 ?_
    refine AW.iconst (v := (1 : Int32)) dX10_drinks_20 (by decide) ?_
    refine AW.iand dX10_drinks_21 ?_
    refine AW.iconst (v := (1 : Int32)) dX10_drinks_22 (by decide) ?_
    refine AW.icmp_ne (tgt := 30) dX10_drinks_23 (by decide) (fun hc => ?_) (fun hc => ?_)
    · have hf := (if_neg hc).symm.trans hf
      refine AW.iconst (v := (0 : Int32)) dX10_drinks_30 (by decide) ?_
      obtain rfl := Option.some.inj hf
      exact AW.zret (st := []) dX10_drinks_31 rfl (Or.inl rfl) hK
    · have hf := (if_pos hc).symm.trans hf
      refine AW.iconst (v := (1 : Int32)) dX10_drinks_26 (by decide) ?_
      refine AW.goto (tgt := 31) dX10_drinks_27 (by decide) ?_
      obtain rfl := Option.some.inj hf
      exact AW.zret (st := []) dX10_drinks_31 rfl (Or.inr rfl) hK
def f_X10_drink_7 (N : Nat) (J : Nat → Nat → Int64) (ρ : Rh) : Nat → (Nat → Nat → Int32) → Int32 → Option ((Nat → Nat → Int32))
  | 0, _, _ => none
  | n + 1, I1, i2 => (if ((I1 42 0) ≤ i2) then some I1 else (Option.bind (f_X10_drinks N ρ I1 J i2) fun v3 => (((if (v3 = (0 : Int32)) then some I1 else some (u2 I1 48 14 ((I1 48 14) + (1 : Int32)))) : Option ((Nat → Nat → Int32))).bind fun j4 => f_X10_drink_7 N J ρ n j4 (i2 + (1 : Int32)))))
theorem l_X10_drink_7 {G : Gd} {d N : Nat} {K : Ah → Option Value → Prop} {J : Nat → Nat → Int64} {ρ : Rh} (hs : Sh ρ) {o : (Nat → Nat → Int32)} : ∀ (n : Nat) (I1 : Nat → Nat → Int32) (i2 : Int32), f_X10_drink_7 N J ρ n I1 i2 = some o → AW G mX10_drink (d + 3) 0 0 K 42 [some (.ref 48), none, none, none, none] [] (o, J, ρ) → AW G mX10_drink (d + 3) 0 0 K 7 [some (.ref 48), some (.int i2), none, none, none] [] (I1, J, ρ) := by
  intro n
  induction n with
  | zero => intro I1 i2 hf hE; rw [f_X10_drink_7.eq_1] at hf; cases hf
  | succ n ih =>
    intro I1 i2 hf hE
    rw [f_X10_drink_7.eq_2] at hf
    refine AW.iload_n dX10_drink_7 rfl ?_
    refine AW.aload_n dX10_drink_8 rfl ?_
    refine TW.getR fX10_36_10 hs.k48 (rf_some hs.r48_0) dX10_drink_9 ?_
    refine TW.getI (x := (I1 42 0)) fX10_111_0 hs.k42 rfl dX10_drink_12 ?_
    refine AW.icmp_ge (tgt := 42) dX10_drink_15 (by decide) (fun hc => ?_) (fun hc => ?_)
    · have hf := (if_pos hc).symm.trans hf
      obtain rfl := Option.some.inj hf
      exact AW.weak _ (by exact (And.intro rfl trivial)) hE
    · have hf := (if_neg hc).symm.trans hf
      refine AW.aload_n dX10_drink_18 rfl ?_
      refine AW.iload_n dX10_drink_19 rfl ?_
      obtain ⟨v3, gv3, hf⟩ := ob_split hf
      refine TW.invv (as := [.int i2]) (rest := []) viX10_117_10 hs.k48 dX10_drink_20 rfl rfl (Nat.le_of_ble_eq_true rfl) (c_X10_drinks hs gv3 ?_)
      show AW G mX10_drink (d + 3) 0 0 K 23 [some (.ref 48), some (.int i2), none, none, none] [.int v3] (I1, J, ρ)
      obtain ⟨j4, gj4, hf⟩ := ob_split hf
      have Kj4 : AW G mX10_drink (d + 3) 0 0 K 36 [some (.ref 48), some (.int i2), none, none, none] [] (j4, J, ρ) := by
        refine AW.iinc (v := (i2 + (1 : Int32))) (ls' := [some (.ref 48), some (.int (i2 + (1 : Int32))), none, none, none]) dX10_drink_36 rfl rfl (Nat.le_of_ble_eq_true rfl) rfl ?_
        refine AW.goto (tgt := 7) dX10_drink_39 (by decide) ?_
        exact AW.weak _ (by exact (And.intro rfl (And.intro rfl trivial))) (ih j4 (i2 + (1 : Int32)) hf hE)
      clear hf; have hf := gj4; clear gj4
      refine AW.if_eq (tgt := 36) dX10_drink_23 (by decide) (fun hc => ?_) (fun hc => ?_)
      · have hf := (if_pos hc).symm.trans hf
        obtain rfl := Option.some.inj hf
        exact AW.weak _ (by exact (And.intro rfl (And.intro rfl trivial))) Kj4
      · have hf := (if_neg hc).symm.trans hf
        refine AW.aload_n dX10_drink_26 rfl ?_
        refine AW.dup dX10_drink_27 rfl ?_
        refine TW.getI (x := (I1 48 14)) fX10_114_10 hs.k48 rfl dX10_drink_28 ?_
        refine AW.iconst (v := (1 : Int32)) dX10_drink_31 (by decide) ?_
        refine AW.iadd dX10_drink_32 ?_
        refine TW.putI fX10_114_10 hs.k48 (Or.inl rfl) dX10_drink_33 ?_
        show AW G mX10_drink (d + 3) 0 0 K 36 [some (.ref 48), some (.int i2), none, none, none] [] ((u2 I1 48 14 ((I1 48 14) + (1 : Int32))), J, ρ)
        obtain rfl := Option.some.inj hf
        exact AW.weak _ (by exact (And.intro rfl (And.intro rfl trivial))) Kj4
def f_X10_drink_54 (N : Nat) (J : Nat → Nat → Int64) (ρ : Rh) : Nat → (Nat → Nat → Int32) → Int32 → Int32 → Option ((Nat → Nat → Int32))
  | 0, _, _, _ => none
  | n + 1, I6, i7, i8 => (if ((I6 42 0) ≤ i8) then some I6 else (Option.bind (f_X10_drinks N ρ I6 J i8) fun v9 => (((if (v9 = (0 : Int32)) then some (i7, I6) else (if ¬ (((I6 48 13) + (1 : Int32)) < 0 ∨ 13 ≤ tn ((I6 48 13) + (1 : Int32))) then (bnd (if (I6 76 (tn ((I6 48 13) + (1 : Int32)))) < i7 then (I6 76 (tn ((I6 48 13) + (1 : Int32)))) else i7) fun x11 => (Option.bind (ρ.1 48 8) fun a12 => (Option.bind (f_any_share N ρ I6 J a12 i8) fun v13 => (bnd (if v13 < x11 then v13 else x11) fun x14 => (if ¬ ((I6 48 13) < 0 ∨ 12 ≤ tn (I6 48 13)) then (if ¬ (i8 < 0 ∨ 8 ≤ tn i8) then (if ¬ ((((u2 I6 (64 + (tn (I6 48 13))) (tn i8) x14) 48 13) + (1 : Int32)) < 0 ∨ 13 ≤ tn (((u2 I6 (64 + (tn (I6 48 13))) (tn i8) x14) 48 13) + (1 : Int32))) then (bnd (((u2 I6 (64 + (tn (I6 48 13))) (tn i8) x14) 76 (tn (((u2 I6 (64 + (tn (I6 48 13))) (tn i8) x14) 48 13) + (1 : Int32)))) - x14) fun x19 => (if ¬ ((((u2 I6 (64 + (tn (I6 48 13))) (tn i8) x14) 48 13) + (1 : Int32)) < 0 ∨ 13 ≤ tn (((u2 I6 (64 + (tn (I6 48 13))) (tn i8) x14) 48 13) + (1 : Int32))) then (bnd (((u2 I6 (64 + (tn (I6 48 13))) (tn i8) x14) 48 15) + (1 : Int32)) fun x21 => some ((i7 - x14), (u2 (u2 (u2 I6 (64 + (tn (I6 48 13))) (tn i8) x14) 76 (tn (((u2 I6 (64 + (tn (I6 48 13))) (tn i8) x14) 48 13) + (1 : Int32))) x19) 48 15 x21))) else none)) else none) else none) else none))))) else none)) : Option (Int32 × (Nat → Nat → Int32))).bind fun j22 => f_X10_drink_54 N J ρ n j22.2 j22.1 (i8 + (1 : Int32)))))
theorem l_X10_drink_54 {G : Gd} {d N : Nat} {K : Ah → Option Value → Prop} {J : Nat → Nat → Int64} {ρ : Rh} (hs : Sh ρ) {o : (Nat → Nat → Int32)} : ∀ (n : Nat) (I6 : Nat → Nat → Int32) (i7 : Int32) (i8 : Int32), f_X10_drink_54 N J ρ n I6 i7 i8 = some o → AW G mX10_drink (d + 3) 0 0 K 154 [none, none, none, none, none] [] (o, J, ρ) → AW G mX10_drink (d + 3) 0 0 K 54 [some (.ref 48), some (.int i7), some (.int i8), none, none] [] (I6, J, ρ) := by
  intro n
  induction n with
  | zero => intro I6 i7 i8 hf hE; rw [f_X10_drink_54.eq_1] at hf; cases hf
  | succ n ih =>
    intro I6 i7 i8 hf hE
    rw [f_X10_drink_54.eq_2] at hf
    refine AW.iload_n dX10_drink_54 rfl ?_
    refine AW.aload_n dX10_drink_55 rfl ?_
    refine TW.getR fX10_36_10 hs.k48 (rf_some hs.r48_0) dX10_drink_56 ?_
    refine TW.getI (x := (I6 42 0)) fX10_111_0 hs.k42 rfl dX10_drink_59 ?_
    refine AW.icmp_ge (tgt := 154) dX10_drink_62 (by decide) (fun hc => ?_) (fun hc => ?_)
    · have hf := (if_pos hc).symm.trans hf
      obtain rfl := Option.some.inj hf
      exact AW.weak _ (by exact trivial) hE
    · have hf := (if_neg hc).symm.trans hf
      refine AW.aload_n dX10_drink_65 rfl ?_
      refine AW.iload_n dX10_drink_66 rfl ?_
      obtain ⟨v9, gv9, hf⟩ := ob_split hf
      refine TW.invv (as := [.int i8]) (rest := []) viX10_117_10 hs.k48 dX10_drink_67 rfl rfl (Nat.le_of_ble_eq_true rfl) (c_X10_drinks hs gv9 ?_)
      show AW G mX10_drink (d + 3) 0 0 K 70 [some (.ref 48), some (.int i7), some (.int i8), none, none] [.int v9] (I6, J, ρ)
      obtain ⟨j22, gj22, hf⟩ := ob_split hf
      have Kj22 : AW G mX10_drink (d + 3) 0 0 K 148 [some (.ref 48), some (.int j22.1), some (.int i8), none, none] [] (j22.2, J, ρ) := by
        refine AW.iinc (v := (i8 + (1 : Int32))) (ls' := [some (.ref 48), some (.int j22.1), some (.int (i8 + (1 : Int32))), none, none]) dX10_drink_148 rfl rfl (Nat.le_of_ble_eq_true rfl) rfl ?_
        refine AW.goto (tgt := 54) dX10_drink_151 (by decide) ?_
        exact AW.weak _ (by exact (And.intro rfl (And.intro rfl (And.intro rfl trivial)))) (ih j22.2 j22.1 (i8 + (1 : Int32)) hf hE)
      clear hf; have hf := gj22; clear gj22
      refine AW.if_eq (tgt := 148) dX10_drink_70 (by decide) (fun hc => ?_) (fun hc => ?_)
      · have hf := (if_pos hc).symm.trans hf
        obtain rfl := Option.some.inj hf
        exact AW.weak _ (by exact (And.intro rfl (And.intro rfl (And.intro rfl trivial)))) Kj22
      · have hf := (if_neg hc).symm.trans hf
        refine AW.iload_n dX10_drink_73 rfl ?_
        refine AW.aload_n dX10_drink_74 rfl ?_
        refine TW.getR fX10_19_10 hs.k48 (rf_some hs.r48_3) dX10_drink_75 ?_
        refine AW.aload_n dX10_drink_78 rfl ?_
        refine TW.getI (x := (I6 48 13)) fX10_77_10 hs.k48 rfl dX10_drink_79 ?_
        refine AW.iconst (v := (1 : Int32)) dX10_drink_82 (by decide) ?_
        refine AW.iadd dX10_drink_83 ?_
        obtain ⟨h10, hf⟩ := gd_split hf
        refine TW.iald (x := (I6 76 (tn ((I6 48 13) + (1 : Int32))))) hs.k76 h10 rfl dX10_drink_84 ?_
        refine AW.mmin mtX10_90 dX10_drink_85 (Nat.le_of_ble_eq_true rfl) ?_
        obtain ⟨x11, gx11, hf⟩ := bnd_one hf
        refine AW.nmI gx11 ?_
        refine AW.istore_n (ls' := [some (.ref 48), some (.int i7), some (.int i8), some (.int x11), none]) dX10_drink_88 (Nat.le_of_ble_eq_true rfl) rfl ?_
        refine AW.iload_n dX10_drink_89 rfl ?_
        refine AW.aload_n dX10_drink_90 rfl ?_
        obtain ⟨a12, ga12, hf⟩ := ob_split hf
        refine TW.getR (v := .ref a12) fX10_49_10 hs.k48 (rf_some ga12) dX10_drink_91 ?_
        refine AW.aload_n dX10_drink_94 rfl ?_
        refine AW.iload_n dX10_drink_95 rfl ?_
        obtain ⟨v13, gv13, hf⟩ := ob_split hf
        refine TW.any_share hs dX10_drink_96 gv13 (Nat.le_of_ble_eq_true rfl) ?_
        show AW G mX10_drink (d + 3) 0 0 K 99 [some (.ref 48), some (.int i7), some (.int i8), some (.int x11), none] [.int v13, .int x11] (I6, J, ρ)
        refine AW.mmin mtX10_90 dX10_drink_99 (Nat.le_of_ble_eq_true rfl) ?_
        obtain ⟨x14, gx14, hf⟩ := bnd_one hf
        refine AW.nmI gx14 ?_
        refine AW.istore (ls' := [some (.ref 48), some (.int i7), some (.int i8), some (.int x11), some (.int x14)]) dX10_drink_102 (Nat.le_of_ble_eq_true rfl) rfl ?_
        refine AW.aload_n dX10_drink_104 rfl ?_
        refine TW.getR fX10_16_10 hs.k48 (rf_some hs.r48_2) dX10_drink_105 ?_
        refine AW.aload_n dX10_drink_108 rfl ?_
        refine TW.getI (x := (I6 48 13)) fX10_77_10 hs.k48 rfl dX10_drink_109 ?_
        obtain ⟨h15, hf⟩ := gd_split hf
        have hl16 : (tn (I6 48 13)) < 12 := vp_lt h15
        refine TW.aald (t := 3) hs.k63 (by decide) h15 (rf_some (hs.e63 hl16)) dX10_drink_112 ?_
        refine AW.iload_n dX10_drink_113 rfl ?_
        refine AW.iload dX10_drink_114 rfl ?_
        obtain ⟨h17, hf⟩ := gd_split hf
        refine TW.iast (hs.ek63 hl16) h17 dX10_drink_116 ?_
        show AW G mX10_drink (d + 3) 0 0 K 117 [some (.ref 48), some (.int i7), some (.int i8), some (.int x11), some (.int x14)] [] ((u2 I6 (64 + (tn (I6 48 13))) (tn i8) x14), J, ρ)
        refine AW.aload_n dX10_drink_117 rfl ?_
        refine TW.getR fX10_19_10 hs.k48 (rf_some hs.r48_3) dX10_drink_118 ?_
        refine AW.aload_n dX10_drink_121 rfl ?_
        refine TW.getI (x := ((u2 I6 (64 + (tn (I6 48 13))) (tn i8) x14) 48 13)) fX10_77_10 hs.k48 rfl dX10_drink_122 ?_
        refine AW.iconst (v := (1 : Int32)) dX10_drink_125 (by decide) ?_
        refine AW.iadd dX10_drink_126 ?_
        refine AW.dup2 dX10_drink_127 rfl rfl ?_
        obtain ⟨h18, hf⟩ := gd_split hf
        refine TW.iald (x := ((u2 I6 (64 + (tn (I6 48 13))) (tn i8) x14) 76 (tn (((u2 I6 (64 + (tn (I6 48 13))) (tn i8) x14) 48 13) + (1 : Int32))))) hs.k76 h18 rfl dX10_drink_128 ?_
        refine AW.iload dX10_drink_129 rfl ?_
        refine AW.isub dX10_drink_131 ?_
        obtain ⟨x19, gx19, hf⟩ := bnd_one hf
        refine AW.nmI gx19 ?_
        obtain ⟨h20, hf⟩ := gd_split hf
        refine TW.iast hs.k76 h20 dX10_drink_132 ?_
        show AW G mX10_drink (d + 3) 0 0 K 133 [some (.ref 48), some (.int i7), some (.int i8), some (.int x11), some (.int x14)] [] ((u2 (u2 I6 (64 + (tn (I6 48 13))) (tn i8) x14) 76 (tn (((u2 I6 (64 + (tn (I6 48 13))) (tn i8) x14) 48 13) + (1 : Int32))) x19), J, ρ)
        refine AW.iload_n dX10_drink_133 rfl ?_
        refine AW.iload dX10_drink_134 rfl ?_
        refine AW.isub dX10_drink_136 ?_
        refine AW.istore_n (ls' := [some (.ref 48), some (.int (i7 - x14)), some (.int i8), some (.int x11), some (.int x14)]) dX10_drink_137 (Nat.le_of_ble_eq_true rfl) rfl ?_
        refine AW.aload_n dX10_drink_138 rfl ?_
        refine AW.dup dX10_drink_139 rfl ?_
        refine TW.getI (x := ((u2 I6 (64 + (tn (I6 48 13))) (tn i8) x14) 48 15)) fX10_121_10 hs.k48 (u2_ne (by decide)) dX10_drink_140 ?_
        refine AW.iconst (v := (1 : Int32)) dX10_drink_143 (by decide) ?_
        refine AW.iadd dX10_drink_144 ?_
        obtain ⟨x21, gx21, hf⟩ := bnd_one hf
        refine AW.nmI gx21 ?_
        refine TW.putI fX10_121_10 hs.k48 (Or.inl rfl) dX10_drink_145 ?_
        show AW G mX10_drink (d + 3) 0 0 K 148 [some (.ref 48), some (.int (i7 - x14)), some (.int i8), some (.int x11), some (.int x14)] [] ((u2 (u2 (u2 I6 (64 + (tn (I6 48 13))) (tn i8) x14) 76 (tn (((u2 I6 (64 + (tn (I6 48 13))) (tn i8) x14) 48 13) + (1 : Int32))) x19) 48 15 x21), J, ρ)
        obtain rfl := Option.some.inj hf
        exact AW.weak _ (by exact (And.intro rfl (And.intro rfl (And.intro rfl trivial)))) Kj22
def f_X10_drink (N : Nat) (ρ : Rh) (I : Nat → Nat → Int32) (J : Nat → Nat → Int64) : Option ((Nat → Nat → Int32)) := ((f_X10_drink_7 N J ρ N (u2 I 48 14 (0 : Int32)) (0 : Int32)).bind fun j5 => ((f_X10_drink_54 N J ρ N (u2 j5 48 15 (0 : Int32)) (j5 48 9) (0 : Int32)).bind fun j23 => some j23))
theorem c_X10_drink {G : Gd} {d N : Nat} {K : Ah → Option Value → Prop} {ρ : Rh} {I : Nat → Nat → Int32} {J : Nat → Nat → Int64} {o : (Nat → Nat → Int32)} (hs : Sh ρ) (hf : f_X10_drink N ρ I J = some o) (hK : K (o, J, ρ) none) : AM G (d + 3) 0 0 mX10_drink [.ref 48] (I, J, ρ) K := by
  unfold f_X10_drink at hf
  refine AM.intro okX10_drink.2.2.2.1 (Nat.le_of_ble_eq_true rfl) [some (.ref 48), none, none, none, none] rfl ?_
  refine AW.aload_n dX10_drink_0 rfl ?_
  refine AW.iconst (v := (0 : Int32)) dX10_drink_1 (by decide) ?_
  refine TW.putI fX10_114_10 hs.k48 (Or.inl rfl) dX10_drink_2 ?_
  show AW G mX10_drink (d + 3) 0 0 K 5 [some (.ref 48), none, none, none, none] [] ((u2 I 48 14 (0 : Int32)), J, ρ)
  refine AW.iconst (v := (0 : Int32)) dX10_drink_5 (by decide) ?_
  refine AW.istore_n (ls' := [some (.ref 48), some (.int (0 : Int32)), none, none, none]) dX10_drink_6 (Nat.le_of_ble_eq_true rfl) rfl ?_
  obtain ⟨j5, gj5, hf⟩ := ob_split hf
  refine AW.weak _ (by exact (And.intro rfl (And.intro rfl trivial))) (l_X10_drink_7 hs N (u2 I 48 14 (0 : Int32)) (0 : Int32) gj5 ?_)
  show AW G mX10_drink (d + 3) 0 0 K 42 [some (.ref 48), none, none, none, none] [] (j5, J, ρ)
  refine AW.aload_n dX10_drink_42 rfl ?_
  refine TW.getI (x := (j5 48 9)) fX10_53_10 hs.k48 rfl dX10_drink_43 ?_
  refine AW.istore_n (ls' := [some (.ref 48), some (.int (j5 48 9)), none, none, none]) dX10_drink_46 (Nat.le_of_ble_eq_true rfl) rfl ?_
  refine AW.aload_n dX10_drink_47 rfl ?_
  refine AW.iconst (v := (0 : Int32)) dX10_drink_48 (by decide) ?_
  refine TW.putI fX10_121_10 hs.k48 (Or.inl rfl) dX10_drink_49 ?_
  show AW G mX10_drink (d + 3) 0 0 K 52 [some (.ref 48), some (.int (j5 48 9)), none, none, none] [] ((u2 j5 48 15 (0 : Int32)), J, ρ)
  refine AW.iconst (v := (0 : Int32)) dX10_drink_52 (by decide) ?_
  refine AW.istore_n (ls' := [some (.ref 48), some (.int (j5 48 9)), some (.int (0 : Int32)), none, none]) dX10_drink_53 (Nat.le_of_ble_eq_true rfl) rfl ?_
  obtain ⟨j23, gj23, hf⟩ := ob_split hf
  refine AW.weak _ (by exact (And.intro rfl (And.intro rfl (And.intro rfl trivial)))) (l_X10_drink_54 hs N (u2 j5 48 15 (0 : Int32)) (j5 48 9) (0 : Int32) gj23 ?_)
  show AW G mX10_drink (d + 3) 0 0 K 154 [none, none, none, none, none] [] (j23, J, ρ)
  obtain rfl := Option.some.inj hf
  exact AW.vret (st := []) dX10_drink_154 rfl hK
def f_X10_living_4 (N : Nat) (I : Nat → Nat → Int32) (J : Nat → Nat → Int64) (ρ : Rh) (p1 : Int32) : Nat → Int32 → Int32 → Option (Int32)
  | 0, _, _ => none
  | n + 1, i1, i2 => (if ((I 42 0) ≤ i2) then some i1 else (if ¬ (p1 < 0 ∨ 13 ≤ tn p1) then (if ¬ (i2 < 0 ∨ 8 ≤ tn i2) then (((if ((I (50 + (tn p1)) (tn i2)) ≤ (0 : Int32)) then some i1 else some (i1 + (1 : Int32))) : Option (Int32)).bind fun j6 => f_X10_living_4 N I J ρ p1 n j6 (i2 + (1 : Int32))) else none) else none))
theorem l_X10_living_4 {G : Gd} {d N : Nat} {K : Ah → Option Value → Prop} {I : Nat → Nat → Int32} {J : Nat → Nat → Int64} {ρ : Rh} {p1 : Int32} (hs : Sh ρ) {o : Int32} : ∀ (n : Nat) (i1 : Int32) (i2 : Int32), f_X10_living_4 N I J ρ p1 n i1 i2 = some o → AW G mX10_living d 0 0 K 35 [none, none, some (.int o), none] [] (I, J, ρ) → AW G mX10_living d 0 0 K 4 [some (.ref 48), some (.int p1), some (.int i1), some (.int i2)] [] (I, J, ρ) := by
  intro n
  induction n with
  | zero => intro i1 i2 hf hE; rw [f_X10_living_4.eq_1] at hf; cases hf
  | succ n ih =>
    intro i1 i2 hf hE
    rw [f_X10_living_4.eq_2] at hf
    refine AW.iload_n dX10_living_4 rfl ?_
    refine AW.aload_n dX10_living_5 rfl ?_
    refine TW.getR fX10_36_10 hs.k48 (rf_some hs.r48_0) dX10_living_6 ?_
    refine TW.getI (x := (I 42 0)) fX10_111_0 hs.k42 rfl dX10_living_9 ?_
    refine AW.icmp_ge (tgt := 35) dX10_living_12 (by decide) (fun hc => ?_) (fun hc => ?_)
    · have hf := (if_pos hc).symm.trans hf
      obtain rfl := Option.some.inj hf
      exact AW.weak _ (by exact (And.intro rfl trivial)) hE
    · have hf := (if_neg hc).symm.trans hf
      refine AW.aload_n dX10_living_15 rfl ?_
      refine TW.getR fX10_11_10 hs.k48 (rf_some hs.r48_1) dX10_living_16 ?_
      refine AW.iload_n dX10_living_19 rfl ?_
      obtain ⟨h3, hf⟩ := gd_split hf
      have hl4 : (tn p1) < 13 := vp_lt h3
      refine TW.aald (t := 3) hs.k49 (by decide) h3 (rf_some (hs.e49 hl4)) dX10_living_20 ?_
      refine AW.iload_n dX10_living_21 rfl ?_
      obtain ⟨h5, hf⟩ := gd_split hf
      refine TW.iald (x := (I (50 + (tn p1)) (tn i2))) (hs.ek49 hl4) h5 rfl dX10_living_22 ?_
      obtain ⟨j6, gj6, hf⟩ := ob_split hf
      have Kj6 : AW G mX10_living d 0 0 K 29 [some (.ref 48), some (.int p1), some (.int j6), some (.int i2)] [] (I, J, ρ) := by
        refine AW.iinc (v := (i2 + (1 : Int32))) (ls' := [some (.ref 48), some (.int p1), some (.int j6), some (.int (i2 + (1 : Int32)))]) dX10_living_29 rfl rfl (Nat.le_of_ble_eq_true rfl) rfl ?_
        refine AW.goto (tgt := 4) dX10_living_32 (by decide) ?_
        exact AW.weak _ (by exact (And.intro rfl (And.intro rfl (And.intro rfl (And.intro rfl trivial))))) (ih j6 (i2 + (1 : Int32)) hf hE)
      clear hf; have hf := gj6; clear gj6
      refine AW.if_le (tgt := 29) dX10_living_23 (by decide) (fun hc => ?_) (fun hc => ?_)
      · have hf := (if_pos hc).symm.trans hf
        obtain rfl := Option.some.inj hf
        exact AW.weak _ (by exact (And.intro rfl (And.intro rfl (And.intro rfl (And.intro rfl trivial))))) Kj6
      · have hf := (if_neg hc).symm.trans hf
        refine AW.iinc (v := (i1 + (1 : Int32))) (ls' := [some (.ref 48), some (.int p1), some (.int (i1 + (1 : Int32))), some (.int i2)]) dX10_living_26 rfl rfl (Nat.le_of_ble_eq_true rfl) rfl ?_
        obtain rfl := Option.some.inj hf
        exact AW.weak _ (by exact (And.intro rfl (And.intro rfl (And.intro rfl (And.intro rfl trivial))))) Kj6
def f_X10_living (N : Nat) (ρ : Rh) (I : Nat → Nat → Int32) (J : Nat → Nat → Int64) (p1 : Int32) : Option (Int32) := ((f_X10_living_4 N I J ρ p1 N (0 : Int32) (0 : Int32)).bind fun j7 => some j7)
theorem c_X10_living {G : Gd} {d N : Nat} {K : Ah → Option Value → Prop} {ρ : Rh} {I : Nat → Nat → Int32} {J : Nat → Nat → Int64} {p1 : Int32} {o : Int32} (hs : Sh ρ) (hf : f_X10_living N ρ I J p1 = some o) (hK : K (I, J, ρ) (some (.int o))) : AM G d 0 0 mX10_living [.ref 48, .int p1] (I, J, ρ) K := by
  unfold f_X10_living at hf
  refine AM.intro okX10_living.2.2.2.1 (Nat.le_of_ble_eq_true rfl) [some (.ref 48), some (.int p1), none, none] rfl ?_
  refine AW.iconst (v := (0 : Int32)) dX10_living_0 (by decide) ?_
  refine AW.istore_n (ls' := [some (.ref 48), some (.int p1), some (.int (0 : Int32)), none]) dX10_living_1 (Nat.le_of_ble_eq_true rfl) rfl ?_
  refine AW.iconst (v := (0 : Int32)) dX10_living_2 (by decide) ?_
  refine AW.istore_n (ls' := [some (.ref 48), some (.int p1), some (.int (0 : Int32)), some (.int (0 : Int32))]) dX10_living_3 (Nat.le_of_ble_eq_true rfl) rfl ?_
  obtain ⟨j7, gj7, hf⟩ := ob_split hf
  refine AW.weak _ (by exact (And.intro rfl (And.intro rfl (And.intro rfl (And.intro rfl trivial))))) (l_X10_living_4 hs N (0 : Int32) (0 : Int32) gj7 ?_)
  show AW G mX10_living d 0 0 K 35 [none, none, some (.int j7), none] [] (I, J, ρ)
  refine AW.iload_n dX10_living_35 rfl ?_
  obtain rfl := Option.some.inj hf
  exact AW.iret (st := []) dX10_living_36 rfl hK
def f_X10_bound (N : Nat) (ρ : Rh) (I : Nat → Nat → Int32) (J : Nat → Nat → Int64) (p1 : Int32) (p2 : Int32) : Option (Int32) := some (if (0 : Int32) < (if p1 < p2 then p1 else p2) then (if p1 < p2 then p1 else p2) else (0 : Int32))
theorem c_X10_bound {G : Gd} {d N : Nat} {K : Ah → Option Value → Prop} {ρ : Rh} {I : Nat → Nat → Int32} {J : Nat → Nat → Int64} {p1 : Int32} {p2 : Int32} {o : Int32} (hs : Sh ρ) (hf : f_X10_bound N ρ I J p1 p2 = some o) (hK : K (I, J, ρ) (some (.int o))) : AM G (d + 1) 0 0 mX10_bound [.int p1, .int p2] (I, J, ρ) K := by
  unfold f_X10_bound at hf
  refine AM.intro okX10_bound.2.2.2.1 (Nat.le_of_ble_eq_true rfl) [some (.int p1), some (.int p2)] rfl ?_
  refine AW.iconst (v := (0 : Int32)) dX10_bound_0 (by decide) ?_
  refine AW.iload_n dX10_bound_1 rfl ?_
  refine AW.iload_n dX10_bound_2 rfl ?_
  refine AW.mmin mtX10_90 dX10_bound_3 (Nat.le_of_ble_eq_true rfl) ?_
  refine AW.mmax mtX10_159 dX10_bound_6 (Nat.le_of_ble_eq_true rfl) ?_
  obtain rfl := Option.some.inj hf
  exact AW.iret (st := []) dX10_bound_9 rfl hK
def f_X10_findFacts (N : Nat) (ρ : Rh) (I : Nat → Nat → Int32) (J : Nat → Nat → Int64) (p1 : Int32) : Option ((Nat → Nat → Int32)) := (if ¬ ((I 48 13) < 0 ∨ 13 ≤ tn (I 48 13)) then (if ¬ (p1 < 0 ∨ 8 ≤ tn p1) then (bnd (I (50 + (tn (I 48 13))) (tn p1)) fun x4 => (if ¬ (p1 < 0 ∨ 8 ≤ tn p1) then (if ¬ ((I 48 13) < 0 ∨ 12 ≤ tn (I 48 13)) then (if ¬ (p1 < 0 ∨ 8 ≤ tn p1) then (bnd ((u2 (u2 (u2 I 79 0 x4) 79 1 (I 44 (tn p1))) 79 2 (I 48 13)) (64 + (tn (I 48 13))) (tn p1)) fun x9 => (Option.bind (ρ.1 48 8) fun a10 => (if isR (ρ.2.1 a10) then (bnd ((u2 (u2 (u2 (u2 (u2 I 79 0 x4) 79 1 (I 44 (tn p1))) 79 2 (I 48 13)) 79 3 x9) 79 4 (I 48 14)) a10 1) fun x12 => some (u2 (u2 (u2 (u2 (u2 (u2 I 79 0 x4) 79 1 (I 44 (tn p1))) 79 2 (I 48 13)) 79 3 x9) 79 4 (I 48 14)) 79 5 x12)) else none))) else none) else none) else none)) else none) else none)
theorem c_X10_findFacts {G : Gd} {d N : Nat} {K : Ah → Option Value → Prop} {ρ : Rh} {I : Nat → Nat → Int32} {J : Nat → Nat → Int64} {p1 : Int32} {o : (Nat → Nat → Int32)} (hs : Sh ρ) (hf : f_X10_findFacts N ρ I J p1 = some o) (hK : K (o, J, ρ) none) : AM G d 0 0 mX10_findFacts [.ref 48, .int p1] (I, J, ρ) K := by
  unfold f_X10_findFacts at hf
  refine AM.intro okX10_findFacts.2.2.2.1 (Nat.le_of_ble_eq_true rfl) [some (.ref 48), some (.int p1)] rfl ?_
  refine AW.aload_n dX10_findFacts_0 rfl ?_
  refine TW.getR fX10_30_10 hs.k48 (rf_some hs.r48_6) dX10_findFacts_1 ?_
  refine AW.iconst (v := (0 : Int32)) dX10_findFacts_4 (by decide) ?_
  refine AW.aload_n dX10_findFacts_5 rfl ?_
  refine TW.getR fX10_11_10 hs.k48 (rf_some hs.r48_1) dX10_findFacts_6 ?_
  refine AW.aload_n dX10_findFacts_9 rfl ?_
  refine TW.getI (x := (I 48 13)) fX10_77_10 hs.k48 rfl dX10_findFacts_10 ?_
  obtain ⟨h1, hf⟩ := gd_split hf
  have hl2 : (tn (I 48 13)) < 13 := vp_lt h1
  refine TW.aald (t := 3) hs.k49 (by decide) h1 (rf_some (hs.e49 hl2)) dX10_findFacts_13 ?_
  refine AW.iload_n dX10_findFacts_14 rfl ?_
  obtain ⟨h3, hf⟩ := gd_split hf
  refine TW.iald (x := (I (50 + (tn (I 48 13))) (tn p1))) (hs.ek49 hl2) h3 rfl dX10_findFacts_15 ?_
  obtain ⟨x4, gx4, hf⟩ := bnd_one hf
  refine AW.nmI gx4 ?_
  refine TW.iast hs.k79 (show ¬ ((0 : Int32) < 0 ∨ 6 ≤ (0 : Int32).toNatClampNeg) by decide) dX10_findFacts_16 ?_
  show AW G mX10_findFacts d 0 0 K 17 [some (.ref 48), some (.int p1)] [] ((u2 I 79 0 x4), J, ρ)
  refine AW.aload_n dX10_findFacts_17 rfl ?_
  refine TW.getR fX10_30_10 hs.k48 (rf_some hs.r48_6) dX10_findFacts_18 ?_
  refine AW.iconst (v := (1 : Int32)) dX10_findFacts_21 (by decide) ?_
  refine AW.aload_n dX10_findFacts_22 rfl ?_
  refine TW.getR fX10_36_10 hs.k48 (rf_some hs.r48_0) dX10_findFacts_23 ?_
  refine TW.getR fX10_153_0 hs.k42 (rf_some hs.r42_2) dX10_findFacts_26 ?_
  refine AW.iload_n dX10_findFacts_29 rfl ?_
  obtain ⟨h5, hf⟩ := gd_split hf
  refine TW.iald (x := (I 44 (tn p1))) hs.k44 h5 (u2_ne (by decide)) dX10_findFacts_30 ?_
  refine TW.iast hs.k79 (show ¬ ((1 : Int32) < 0 ∨ 6 ≤ (1 : Int32).toNatClampNeg) by decide) dX10_findFacts_31 ?_
  show AW G mX10_findFacts d 0 0 K 32 [some (.ref 48), some (.int p1)] [] ((u2 (u2 I 79 0 x4) 79 1 (I 44 (tn p1))), J, ρ)
  refine AW.aload_n dX10_findFacts_32 rfl ?_
  refine TW.getR fX10_30_10 hs.k48 (rf_some hs.r48_6) dX10_findFacts_33 ?_
  refine AW.iconst (v := (2 : Int32)) dX10_findFacts_36 (by decide) ?_
  refine AW.aload_n dX10_findFacts_37 rfl ?_
  refine TW.getI (x := (I 48 13)) fX10_77_10 hs.k48 ((u2_ne (by decide)).trans (u2_ne (by decide))) dX10_findFacts_38 ?_
  refine TW.iast hs.k79 (show ¬ ((2 : Int32) < 0 ∨ 6 ≤ (2 : Int32).toNatClampNeg) by decide) dX10_findFacts_41 ?_
  show AW G mX10_findFacts d 0 0 K 42 [some (.ref 48), some (.int p1)] [] ((u2 (u2 (u2 I 79 0 x4) 79 1 (I 44 (tn p1))) 79 2 (I 48 13)), J, ρ)
  refine AW.aload_n dX10_findFacts_42 rfl ?_
  refine TW.getR fX10_30_10 hs.k48 (rf_some hs.r48_6) dX10_findFacts_43 ?_
  refine AW.iconst (v := (3 : Int32)) dX10_findFacts_46 (by decide) ?_
  refine AW.aload_n dX10_findFacts_47 rfl ?_
  refine TW.getR fX10_16_10 hs.k48 (rf_some hs.r48_2) dX10_findFacts_48 ?_
  refine AW.aload_n dX10_findFacts_51 rfl ?_
  refine TW.getI (x := (I 48 13)) fX10_77_10 hs.k48 ((u2_ne (by decide)).trans ((u2_ne (by decide)).trans (u2_ne (by decide)))) dX10_findFacts_52 ?_
  obtain ⟨h6, hf⟩ := gd_split hf
  have hl7 : (tn (I 48 13)) < 12 := vp_lt h6
  refine TW.aald (t := 3) hs.k63 (by decide) h6 (rf_some (hs.e63 hl7)) dX10_findFacts_55 ?_
  refine AW.iload_n dX10_findFacts_56 rfl ?_
  obtain ⟨h8, hf⟩ := gd_split hf
  refine TW.iald (x := ((u2 (u2 (u2 I 79 0 x4) 79 1 (I 44 (tn p1))) 79 2 (I 48 13)) (64 + (tn (I 48 13))) (tn p1))) (hs.ek63 hl7) h8 rfl dX10_findFacts_57 ?_
  obtain ⟨x9, gx9, hf⟩ := bnd_one hf
  refine AW.nmI gx9 ?_
  refine TW.iast hs.k79 (show ¬ ((3 : Int32) < 0 ∨ 6 ≤ (3 : Int32).toNatClampNeg) by decide) dX10_findFacts_58 ?_
  show AW G mX10_findFacts d 0 0 K 59 [some (.ref 48), some (.int p1)] [] ((u2 (u2 (u2 (u2 I 79 0 x4) 79 1 (I 44 (tn p1))) 79 2 (I 48 13)) 79 3 x9), J, ρ)
  refine AW.aload_n dX10_findFacts_59 rfl ?_
  refine TW.getR fX10_30_10 hs.k48 (rf_some hs.r48_6) dX10_findFacts_60 ?_
  refine AW.iconst (v := (4 : Int32)) dX10_findFacts_63 (by decide) ?_
  refine AW.aload_n dX10_findFacts_64 rfl ?_
  refine TW.getI (x := (I 48 14)) fX10_114_10 hs.k48 ((u2_ne (by decide)).trans ((u2_ne (by decide)).trans ((u2_ne (by decide)).trans (u2_ne (by decide))))) dX10_findFacts_65 ?_
  refine TW.iast hs.k79 (show ¬ ((4 : Int32) < 0 ∨ 6 ≤ (4 : Int32).toNatClampNeg) by decide) dX10_findFacts_68 ?_
  show AW G mX10_findFacts d 0 0 K 69 [some (.ref 48), some (.int p1)] [] ((u2 (u2 (u2 (u2 (u2 I 79 0 x4) 79 1 (I 44 (tn p1))) 79 2 (I 48 13)) 79 3 x9) 79 4 (I 48 14)), J, ρ)
  refine AW.aload_n dX10_findFacts_69 rfl ?_
  refine TW.getR fX10_30_10 hs.k48 (rf_some hs.r48_6) dX10_findFacts_70 ?_
  refine AW.iconst (v := (5 : Int32)) dX10_findFacts_73 (by decide) ?_
  refine AW.aload_n dX10_findFacts_74 rfl ?_
  obtain ⟨a10, ga10, hf⟩ := ob_split hf
  refine TW.getR (v := .ref a10) fX10_49_10 hs.k48 (rf_some ga10) dX10_findFacts_75 ?_
  obtain ⟨h11, hf⟩ := gd_split hf
  refine TW.getQ (x := ((u2 (u2 (u2 (u2 (u2 I 79 0 x4) 79 1 (I 44 (tn p1))) 79 2 (I 48 13)) 79 3 x9) 79 4 (I 48 14)) a10 1)) fX10_156_6 fX10_156_5 fX10_156_4 fX10_156_3 fX10_156_9 fX10_156_1 h11 rfl dX10_findFacts_78 ?_
  obtain ⟨x12, gx12, hf⟩ := bnd_one hf
  refine AW.nmI gx12 ?_
  refine TW.iast hs.k79 (show ¬ ((5 : Int32) < 0 ∨ 6 ≤ (5 : Int32).toNatClampNeg) by decide) dX10_findFacts_81 ?_
  show AW G mX10_findFacts d 0 0 K 82 [some (.ref 48), some (.int p1)] [] ((u2 (u2 (u2 (u2 (u2 (u2 I 79 0 x4) 79 1 (I 44 (tn p1))) 79 2 (I 48 13)) 79 3 x9) 79 4 (I 48 14)) 79 5 x12), J, ρ)
  obtain rfl := Option.some.inj hf
  exact AW.vret (st := []) dX10_findFacts_82 rfl hK
def f_X10_fromHidden (N : Nat) (ρ : Rh) (I : Nat → Nat → Int32) (J : Nat → Nat → Int64) (p1 : Int32) : Option ((Nat → Nat → Int32) × Int32) := (if (p1 = (I 48 11)) then (if ((0 : Int32) < (I 48 12)) then some ((u2 I 48 12 ((I 48 12) - (1 : Int32))), (1 : Int32)) else some (I, (0 : Int32))) else some (I, (0 : Int32)))
theorem c_X10_fromHidden {G : Gd} {d N : Nat} {K : Ah → Option Value → Prop} {ρ : Rh} {I : Nat → Nat → Int32} {J : Nat → Nat → Int64} {p1 : Int32} {o : (Nat → Nat → Int32) × Int32} (hs : Sh ρ) (hf : f_X10_fromHidden N ρ I J p1 = some o) (hK : K (o.1, J, ρ) (some (.int o.2))) : AM G d 0 0 mX10_fromHidden [.ref 48, .int p1] (I, J, ρ) K := by
  unfold f_X10_fromHidden at hf
  refine AM.intro okX10_fromHidden.2.2.2.1 (Nat.le_of_ble_eq_true rfl) [some (.ref 48), some (.int p1)] rfl ?_
  refine AW.iload_n dX10_fromHidden_0 rfl ?_
  refine AW.aload_n dX10_fromHidden_1 rfl ?_
  refine TW.getI (x := (I 48 11)) fX10_60_10 hs.k48 rfl dX10_fromHidden_2 ?_
  refine AW.icmp_ne (tgt := 15) dX10_fromHidden_5 (by decide) (fun hc => ?_) (fun hc => ?_)
  · have hf := (if_neg hc).symm.trans hf
    refine AW.iconst (v := (0 : Int32)) dX10_fromHidden_15 (by decide) ?_
    obtain rfl := Option.some.inj hf
    exact AW.iret (st := []) dX10_fromHidden_16 rfl hK
  · have hf := (if_pos hc).symm.trans hf
    refine AW.aload_n dX10_fromHidden_8 rfl ?_
    refine TW.getI (x := (I 48 12)) fX10_63_10 hs.k48 rfl dX10_fromHidden_9 ?_
    refine AW.if_gt (tgt := 17) dX10_fromHidden_12 (by decide) (fun hc => ?_) (fun hc => ?_)
    · have hf := (if_pos hc).symm.trans hf
      refine AW.aload_n dX10_fromHidden_17 rfl ?_
      refine AW.dup dX10_fromHidden_18 rfl ?_
      refine TW.getI (x := (I 48 12)) fX10_63_10 hs.k48 rfl dX10_fromHidden_19 ?_
      refine AW.iconst (v := (1 : Int32)) dX10_fromHidden_22 (by decide) ?_
      refine AW.isub dX10_fromHidden_23 ?_
      refine TW.putI fX10_63_10 hs.k48 (Or.inl rfl) dX10_fromHidden_24 ?_
      show AW G mX10_fromHidden d 0 0 K 27 [some (.ref 48), some (.int p1)] [] ((u2 I 48 12 ((I 48 12) - (1 : Int32))), J, ρ)
      refine AW.iconst (v := (1 : Int32)) dX10_fromHidden_27 (by decide) ?_
      obtain rfl := Option.some.inj hf
      exact AW.iret (st := []) dX10_fromHidden_28 rfl hK
    · have hf := (if_neg hc).symm.trans hf
      refine AW.iconst (v := (0 : Int32)) dX10_fromHidden_15 (by decide) ?_
      obtain rfl := Option.some.inj hf
      exact AW.iret (st := []) dX10_fromHidden_16 rfl hK
def f_X10_rowAndLive_10 (N : Nat) (J : Nat → Nat → Int64) (ρ : Rh) (a3 : Nat) : Nat → (Nat → Nat → Int32) → Int32 → Option ((Nat → Nat → Int32))
  | 0, _, _ => none
  | n + 1, I2, i4 => (if ((I2 42 0) ≤ i4) then some I2 else (if ¬ ((I2 48 13) < 0 ∨ 13 ≤ tn (I2 48 13)) then (if ¬ (i4 < 0 ∨ 8 ≤ tn i4) then (((if ((I2 (50 + (tn (I2 48 13))) (tn i4)) ≤ (0 : Int32)) then some I2 else (Option.bind (f_X10_findFacts N ρ I2 J i4) fun v8 => (if ¬ (((v8 48 13) + (1 : Int32)) < 0 ∨ 13 ≤ tn ((v8 48 13) + (1 : Int32))) then (Option.bind (f_X2_row N ρ v8 J a3) fun v10 => (if ρ.2.1 a3 = (0, 2) then (Option.bind (f_X10_bound N ρ v10.1 J v10.2 (99 : Int32)) fun v12 => (bnd ((v8 77 (tn ((v8 48 13) + (1 : Int32)))) + v12) fun x13 => (if ¬ (((v8 48 13) + (1 : Int32)) < 0 ∨ 13 ≤ tn ((v8 48 13) + (1 : Int32))) then (Option.bind (f_X2_need N ρ (u2 v10.1 77 (tn ((v8 48 13) + (1 : Int32))) x13) J a3) fun v15 => (Option.bind (f_X10_bound N ρ v15.1 J v15.2 (20 : Int32)) fun v16 => (if ¬ ((v15.1 48 13) < 0 ∨ 12 ≤ tn (v15.1 48 13)) then (if ¬ (i4 < 0 ∨ 8 ≤ tn i4) then (Option.bind (f_X10_fromHidden N ρ v15.1 J i4) fun v20 => (bnd ((v15.1 (64 + (tn (v15.1 48 13))) (tn i4)) + v20.2) fun x21 => (if ¬ (((v20.1 48 13) + (1 : Int32)) < 0 ∨ 13 ≤ tn ((v20.1 48 13) + (1 : Int32))) then (if ¬ ((v20.1 48 13) < 0 ∨ 13 ≤ tn (v20.1 48 13)) then (if ¬ (i4 < 0 ∨ 8 ≤ tn i4) then (Option.bind (f_X10_bound N ρ v20.1 J (((v20.1 (50 + (tn (v20.1 48 13))) (tn i4)) + x21) - v16) (99 : Int32)) fun v27 => (if ¬ (i4 < 0 ∨ 8 ≤ tn i4) then some (u2 v20.1 (50 + (tn ((v20.1 48 13) + (1 : Int32)))) (tn i4) v27) else none)) else none) else none) else none))) else none) else none))) else none))) else none)) else none))) : Option ((Nat → Nat → Int32))).bind fun j29 => f_X10_rowAndLive_10 N J ρ a3 n j29 (i4 + (1 : Int32))) else none) else none))
theorem l_X10_rowAndLive_10 {G : Gd} {d N : Nat} {K : Ah → Option Value → Prop} {J : Nat → Nat → Int64} {ρ : Rh} {a3 : Nat} (hs : Sh ρ) {o : (Nat → Nat → Int32)} : ∀ (n : Nat) (I2 : Nat → Nat → Int32) (i4 : Int32), f_X10_rowAndLive_10 N J ρ a3 n I2 i4 = some o → AW G mX10_rowAndLive (d + 3) 0 0 K 148 [none, none, none, none, none] [] (o, J, ρ) → AW G mX10_rowAndLive (d + 3) 0 0 K 10 [some (.ref 48), some (.ref a3), some (.int i4), none, none] [] (I2, J, ρ) := by
  intro n
  induction n with
  | zero => intro I2 i4 hf hE; rw [f_X10_rowAndLive_10.eq_1] at hf; cases hf
  | succ n ih =>
    intro I2 i4 hf hE
    rw [f_X10_rowAndLive_10.eq_2] at hf
    refine AW.iload_n dX10_rowAndLive_10 rfl ?_
    refine AW.aload_n dX10_rowAndLive_11 rfl ?_
    refine TW.getR fX10_36_10 hs.k48 (rf_some hs.r48_0) dX10_rowAndLive_12 ?_
    refine TW.getI (x := (I2 42 0)) fX10_111_0 hs.k42 rfl dX10_rowAndLive_15 ?_
    refine AW.icmp_ge (tgt := 148) dX10_rowAndLive_18 (by decide) (fun hc => ?_) (fun hc => ?_)
    · have hf := (if_pos hc).symm.trans hf
      obtain rfl := Option.some.inj hf
      exact AW.weak _ (by exact trivial) hE
    · have hf := (if_neg hc).symm.trans hf
      refine AW.aload_n dX10_rowAndLive_21 rfl ?_
      refine TW.getR fX10_11_10 hs.k48 (rf_some hs.r48_1) dX10_rowAndLive_22 ?_
      refine AW.aload_n dX10_rowAndLive_25 rfl ?_
      refine TW.getI (x := (I2 48 13)) fX10_77_10 hs.k48 rfl dX10_rowAndLive_26 ?_
      obtain ⟨h5, hf⟩ := gd_split hf
      have hl6 : (tn (I2 48 13)) < 13 := vp_lt h5
      refine TW.aald (t := 3) hs.k49 (by decide) h5 (rf_some (hs.e49 hl6)) dX10_rowAndLive_29 ?_
      refine AW.iload_n dX10_rowAndLive_30 rfl ?_
      obtain ⟨h7, hf⟩ := gd_split hf
      refine TW.iald (x := (I2 (50 + (tn (I2 48 13))) (tn i4))) (hs.ek49 hl6) h7 rfl dX10_rowAndLive_31 ?_
      obtain ⟨j29, gj29, hf⟩ := ob_split hf
      have Kj29 : AW G mX10_rowAndLive (d + 3) 0 0 K 142 [some (.ref 48), some (.ref a3), some (.int i4), none, none] [] (j29, J, ρ) := by
        refine AW.iinc (v := (i4 + (1 : Int32))) (ls' := [some (.ref 48), some (.ref a3), some (.int (i4 + (1 : Int32))), none, none]) dX10_rowAndLive_142 rfl rfl (Nat.le_of_ble_eq_true rfl) rfl ?_
        refine AW.goto (tgt := 10) dX10_rowAndLive_145 (by decide) ?_
        exact AW.weak _ (by exact (And.intro rfl (And.intro rfl (And.intro rfl trivial)))) (ih j29 (i4 + (1 : Int32)) hf hE)
      clear hf; have hf := gj29; clear gj29
      refine AW.if_le (tgt := 142) dX10_rowAndLive_32 (by decide) (fun hc => ?_) (fun hc => ?_)
      · have hf := (if_pos hc).symm.trans hf
        obtain rfl := Option.some.inj hf
        exact AW.weak _ (by exact (And.intro rfl (And.intro rfl (And.intro rfl trivial)))) Kj29
      · have hf := (if_neg hc).symm.trans hf
        refine AW.aload_n dX10_rowAndLive_35 rfl ?_
        refine AW.iload_n dX10_rowAndLive_36 rfl ?_
        obtain ⟨v8, gv8, hf⟩ := ob_split hf
        refine TW.invv (as := [.int i4]) (rest := []) viX10_134_10 hs.k48 dX10_rowAndLive_37 rfl rfl (Nat.le_of_ble_eq_true rfl) (c_X10_findFacts hs gv8 ?_)
        show AW G mX10_rowAndLive (d + 3) 0 0 K 40 [some (.ref 48), some (.ref a3), some (.int i4), none, none] [] (v8, J, ρ)
        refine AW.aload_n dX10_rowAndLive_40 rfl ?_
        refine TW.getR fX10_23_10 hs.k48 (rf_some hs.r48_4) dX10_rowAndLive_41 ?_
        refine AW.aload_n dX10_rowAndLive_44 rfl ?_
        refine TW.getI (x := (v8 48 13)) fX10_77_10 hs.k48 rfl dX10_rowAndLive_45 ?_
        refine AW.iconst (v := (1 : Int32)) dX10_rowAndLive_48 (by decide) ?_
        refine AW.iadd dX10_rowAndLive_49 ?_
        refine AW.dup2 dX10_rowAndLive_50 rfl rfl ?_
        obtain ⟨h9, hf⟩ := gd_split hf
        refine TW.iald (x := (v8 77 (tn ((v8 48 13) + (1 : Int32))))) hs.k77 h9 rfl dX10_rowAndLive_51 ?_
        refine AW.aload_n dX10_rowAndLive_52 rfl ?_
        refine AW.aload_n dX10_rowAndLive_53 rfl ?_
        refine TW.getR fX10_30_10 hs.k48 (rf_some hs.r48_6) dX10_rowAndLive_54 ?_
        refine AW.aload_n dX10_rowAndLive_57 rfl ?_
        refine TW.getR fX10_33_10 hs.k48 (rf_some hs.r48_7) dX10_rowAndLive_58 ?_
        obtain ⟨v10, gv10, hf⟩ := ob_split hf
        obtain ⟨h11, hf⟩ := gd_split hf
        refine TW.invv (as := [.ref 79, .ref 80]) (rest := [.int (v8 77 (tn ((v8 48 13) + (1 : Int32)))), .int ((v8 48 13) + (1 : Int32)), .ref 77]) viX10_138_2 h11 dX10_rowAndLive_61 rfl rfl (Nat.le_of_ble_eq_true rfl) (c_X2_row hs gv10 ?_)
        show AW G mX10_rowAndLive (d + 3) 0 0 K 64 [some (.ref 48), some (.ref a3), some (.int i4), none, none] [.int v10.2, .int (v8 77 (tn ((v8 48 13) + (1 : Int32)))), .int ((v8 48 13) + (1 : Int32)), .ref 77] (v10.1, J, ρ)
        refine AW.bipush (v := (99 : Int32)) dX10_rowAndLive_64 (by decide) ?_
        obtain ⟨v12, gv12, hf⟩ := ob_split hf
        refine TW.invs (as := [.int v10.2, .int (99 : Int32)]) (rest := [.int (v8 77 (tn ((v8 48 13) + (1 : Int32)))), .int ((v8 48 13) + (1 : Int32)), .ref 77]) stX10_144 dX10_rowAndLive_66 rfl rfl (Nat.le_of_ble_eq_true rfl) (c_X10_bound hs gv12 ?_)
        show AW G mX10_rowAndLive (d + 3) 0 0 K 69 [some (.ref 48), some (.ref a3), some (.int i4), none, none] [.int v12, .int (v8 77 (tn ((v8 48 13) + (1 : Int32)))), .int ((v8 48 13) + (1 : Int32)), .ref 77] (v10.1, J, ρ)
        refine AW.iadd dX10_rowAndLive_69 ?_
        obtain ⟨x13, gx13, hf⟩ := bnd_one hf
        refine AW.nmI gx13 ?_
        obtain ⟨h14, hf⟩ := gd_split hf
        refine TW.iast hs.k77 h14 dX10_rowAndLive_70 ?_
        show AW G mX10_rowAndLive (d + 3) 0 0 K 71 [some (.ref 48), some (.ref a3), some (.int i4), none, none] [] ((u2 v10.1 77 (tn ((v8 48 13) + (1 : Int32))) x13), J, ρ)
        refine AW.aload_n dX10_rowAndLive_71 rfl ?_
        refine AW.aload_n dX10_rowAndLive_72 rfl ?_
        refine TW.getR fX10_30_10 hs.k48 (rf_some hs.r48_6) dX10_rowAndLive_73 ?_
        refine AW.aload_n dX10_rowAndLive_76 rfl ?_
        refine TW.getR fX10_33_10 hs.k48 (rf_some hs.r48_7) dX10_rowAndLive_77 ?_
        obtain ⟨v15, gv15, hf⟩ := ob_split hf
        refine TW.invv (as := [.ref 79, .ref 80]) (rest := []) viX10_147_2 h11 dX10_rowAndLive_80 rfl rfl (Nat.le_of_ble_eq_true rfl) (c_X2_need hs gv15 ?_)
        show AW G mX10_rowAndLive (d + 3) 0 0 K 83 [some (.ref 48), some (.ref a3), some (.int i4), none, none] [.int v15.2] (v15.1, J, ρ)
        refine AW.bipush (v := (20 : Int32)) dX10_rowAndLive_83 (by decide) ?_
        obtain ⟨v16, gv16, hf⟩ := ob_split hf
        refine TW.invs (as := [.int v15.2, .int (20 : Int32)]) (rest := []) stX10_144 dX10_rowAndLive_85 rfl rfl (Nat.le_of_ble_eq_true rfl) (c_X10_bound hs gv16 ?_)
        show AW G mX10_rowAndLive (d + 3) 0 0 K 88 [some (.ref 48), some (.ref a3), some (.int i4), none, none] [.int v16] (v15.1, J, ρ)
        refine AW.istore_n (ls' := [some (.ref 48), some (.ref a3), some (.int i4), some (.int v16), none]) dX10_rowAndLive_88 (Nat.le_of_ble_eq_true rfl) rfl ?_
        refine AW.aload_n dX10_rowAndLive_89 rfl ?_
        refine TW.getR fX10_16_10 hs.k48 (rf_some hs.r48_2) dX10_rowAndLive_90 ?_
        refine AW.aload_n dX10_rowAndLive_93 rfl ?_
        refine TW.getI (x := (v15.1 48 13)) fX10_77_10 hs.k48 rfl dX10_rowAndLive_94 ?_
        obtain ⟨h17, hf⟩ := gd_split hf
        have hl18 : (tn (v15.1 48 13)) < 12 := vp_lt h17
        refine TW.aald (t := 3) hs.k63 (by decide) h17 (rf_some (hs.e63 hl18)) dX10_rowAndLive_97 ?_
        refine AW.iload_n dX10_rowAndLive_98 rfl ?_
        obtain ⟨h19, hf⟩ := gd_split hf
        refine TW.iald (x := (v15.1 (64 + (tn (v15.1 48 13))) (tn i4))) (hs.ek63 hl18) h19 rfl dX10_rowAndLive_99 ?_
        refine AW.aload_n dX10_rowAndLive_100 rfl ?_
        refine AW.iload_n dX10_rowAndLive_101 rfl ?_
        obtain ⟨v20, gv20, hf⟩ := ob_split hf
        refine TW.invv (as := [.int i4]) (rest := [.int (v15.1 (64 + (tn (v15.1 48 13))) (tn i4))]) viX10_150_10 hs.k48 dX10_rowAndLive_102 rfl rfl (Nat.le_of_ble_eq_true rfl) (c_X10_fromHidden hs gv20 ?_)
        show AW G mX10_rowAndLive (d + 3) 0 0 K 105 [some (.ref 48), some (.ref a3), some (.int i4), some (.int v16), none] [.int v20.2, .int (v15.1 (64 + (tn (v15.1 48 13))) (tn i4))] (v20.1, J, ρ)
        refine AW.iadd dX10_rowAndLive_105 ?_
        obtain ⟨x21, gx21, hf⟩ := bnd_one hf
        refine AW.nmI gx21 ?_
        refine AW.istore (ls' := [some (.ref 48), some (.ref a3), some (.int i4), some (.int v16), some (.int x21)]) dX10_rowAndLive_106 (Nat.le_of_ble_eq_true rfl) rfl ?_
        refine AW.aload_n dX10_rowAndLive_108 rfl ?_
        refine TW.getR fX10_11_10 hs.k48 (rf_some hs.r48_1) dX10_rowAndLive_109 ?_
        refine AW.aload_n dX10_rowAndLive_112 rfl ?_
        refine TW.getI (x := (v20.1 48 13)) fX10_77_10 hs.k48 rfl dX10_rowAndLive_113 ?_
        refine AW.iconst (v := (1 : Int32)) dX10_rowAndLive_116 (by decide) ?_
        refine AW.iadd dX10_rowAndLive_117 ?_
        obtain ⟨h22, hf⟩ := gd_split hf
        have hl23 : (tn ((v20.1 48 13) + (1 : Int32))) < 13 := vp_lt h22
        refine TW.aald (t := 3) hs.k49 (by decide) h22 (rf_some (hs.e49 hl23)) dX10_rowAndLive_118 ?_
        refine AW.iload_n dX10_rowAndLive_119 rfl ?_
        refine AW.aload_n dX10_rowAndLive_120 rfl ?_
        refine TW.getR fX10_11_10 hs.k48 (rf_some hs.r48_1) dX10_rowAndLive_121 ?_
        refine AW.aload_n dX10_rowAndLive_124 rfl ?_
        refine TW.getI (x := (v20.1 48 13)) fX10_77_10 hs.k48 rfl dX10_rowAndLive_125 ?_
        obtain ⟨h24, hf⟩ := gd_split hf
        have hl25 : (tn (v20.1 48 13)) < 13 := vp_lt h24
        refine TW.aald (t := 3) hs.k49 (by decide) h24 (rf_some (hs.e49 hl25)) dX10_rowAndLive_128 ?_
        refine AW.iload_n dX10_rowAndLive_129 rfl ?_
        obtain ⟨h26, hf⟩ := gd_split hf
        refine TW.iald (x := (v20.1 (50 + (tn (v20.1 48 13))) (tn i4))) (hs.ek49 hl25) h26 rfl dX10_rowAndLive_130 ?_
        refine AW.iload dX10_rowAndLive_131 rfl ?_
        refine AW.iadd dX10_rowAndLive_133 ?_
        refine AW.iload_n dX10_rowAndLive_134 rfl ?_
        refine AW.isub dX10_rowAndLive_135 ?_
        refine AW.bipush (v := (99 : Int32)) dX10_rowAndLive_136 (by decide) ?_
        obtain ⟨v27, gv27, hf⟩ := ob_split hf
        refine TW.invs (as := [.int (((v20.1 (50 + (tn (v20.1 48 13))) (tn i4)) + x21) - v16), .int (99 : Int32)]) (rest := [.int i4, .ref (50 + (tn ((v20.1 48 13) + (1 : Int32))))]) stX10_144 dX10_rowAndLive_138 rfl rfl (Nat.le_of_ble_eq_true rfl) (c_X10_bound hs gv27 ?_)
        show AW G mX10_rowAndLive (d + 3) 0 0 K 141 [some (.ref 48), some (.ref a3), some (.int i4), some (.int v16), some (.int x21)] [.int v27, .int i4, .ref (50 + (tn ((v20.1 48 13) + (1 : Int32))))] (v20.1, J, ρ)
        obtain ⟨h28, hf⟩ := gd_split hf
        refine TW.iast (hs.ek49 hl23) h28 dX10_rowAndLive_141 ?_
        show AW G mX10_rowAndLive (d + 3) 0 0 K 142 [some (.ref 48), some (.ref a3), some (.int i4), some (.int v16), some (.int x21)] [] ((u2 v20.1 (50 + (tn ((v20.1 48 13) + (1 : Int32)))) (tn i4) v27), J, ρ)
        obtain rfl := Option.some.inj hf
        exact AW.weak _ (by exact (And.intro rfl (And.intro rfl (And.intro rfl trivial)))) Kj29
def f_X10_rowAndLive (N : Nat) (ρ : Rh) (I : Nat → Nat → Int32) (J : Nat → Nat → Int64) : Option ((Nat → Nat → Int32)) := (Option.bind (ρ.1 42 6) fun a1 => ((f_X10_rowAndLive_10 N J ρ a1 N I (0 : Int32)).bind fun j30 => some j30))
theorem c_X10_rowAndLive {G : Gd} {d N : Nat} {K : Ah → Option Value → Prop} {ρ : Rh} {I : Nat → Nat → Int32} {J : Nat → Nat → Int64} {o : (Nat → Nat → Int32)} (hs : Sh ρ) (hf : f_X10_rowAndLive N ρ I J = some o) (hK : K (o, J, ρ) none) : AM G (d + 3) 0 0 mX10_rowAndLive [.ref 48] (I, J, ρ) K := by
  unfold f_X10_rowAndLive at hf
  refine AM.intro okX10_rowAndLive.2.2.2.1 (Nat.le_of_ble_eq_true rfl) [some (.ref 48), none, none, none, none] rfl ?_
  refine AW.aload_n dX10_rowAndLive_0 rfl ?_
  refine TW.getR fX10_36_10 hs.k48 (rf_some hs.r48_0) dX10_rowAndLive_1 ?_
  obtain ⟨a1, ga1, hf⟩ := ob_split hf
  refine TW.getR (v := .ref a1) fX10_130_0 hs.k42 (rf_some ga1) dX10_rowAndLive_4 ?_
  refine AW.astore_n (ls' := [some (.ref 48), some (.ref a1), none, none, none]) dX10_rowAndLive_7 (Nat.le_of_ble_eq_true rfl) rfl ?_
  refine AW.iconst (v := (0 : Int32)) dX10_rowAndLive_8 (by decide) ?_
  refine AW.istore_n (ls' := [some (.ref 48), some (.ref a1), some (.int (0 : Int32)), none, none]) dX10_rowAndLive_9 (Nat.le_of_ble_eq_true rfl) rfl ?_
  obtain ⟨j30, gj30, hf⟩ := ob_split hf
  refine AW.weak _ (by exact (And.intro rfl (And.intro rfl (And.intro rfl trivial)))) (l_X10_rowAndLive_10 hs N I (0 : Int32) gj30 ?_)
  show AW G mX10_rowAndLive (d + 3) 0 0 K 148 [none, none, none, none, none] [] (j30, J, ρ)
  obtain rfl := Option.some.inj hf
  exact AW.vret (st := []) dX10_rowAndLive_148 rfl hK
