/-! ===== methods 14.model 2 ===== -/
def f_X12_ruleTold (N : Nat) (ρ : Rh) (I : Nat → Nat → Int32) (J : Nat → Nat → Int64) (p1 : Int32) (p2 : Int32) : Option (Int32) := (Option.bind (f_X12_isRule N ρ I J p1) fun v1 => (if (v1 = (0 : Int32)) then some (-5 : Int32) else (if (p2 = (0 : Int32)) then (if ¬ (p1 < 0 ∨ 8 ≤ tn p1) then some (I 94 (tn p1)) else none) else (if (p2 = (1 : Int32)) then (if ¬ (p1 < 0 ∨ 8 ≤ tn p1) then some (I 95 (tn p1)) else none) else (Option.bind (f_X12_in N ρ I J p2 (2 : Int32) (9 : Int32)) fun v2 => (if (v2 = (0 : Int32)) then some (-7 : Int32) else (if ¬ (((((8 : Int32) * p1) + p2) - (2 : Int32)) < 0 ∨ 64 ≤ tn ((((8 : Int32) * p1) + p2) - (2 : Int32))) then some (I 96 (tn ((((8 : Int32) * p1) + p2) - (2 : Int32)))) else none)))))))
theorem c_X12_ruleTold {G : Gd} {d N : Nat} {K : Ah → Option Value → Prop} {ρ : Rh} {I : Nat → Nat → Int32} {J : Nat → Nat → Int64} {p1 : Int32} {p2 : Int32} {o : Int32} (hs : Sh ρ) (hf : f_X12_ruleTold N ρ I J p1 p2 = some o) (hK : K (I, J, ρ) (some (.int o))) : AM G (d + 2) 0 0 mX12_ruleTold [.ref 89, .int p1, .int p2] (I, J, ρ) K := by
  unfold f_X12_ruleTold at hf
  refine AM.intro okX12_ruleTold.2.2.2.1 (Nat.le_of_ble_eq_true rfl) [some (.ref 89), some (.int p1), some (.int p2)] rfl ?_
  refine AW.aload_n dX12_ruleTold_0 rfl ?_
  refine AW.iload_n dX12_ruleTold_1 rfl ?_
  obtain ⟨v1, gv1, hf⟩ := ob_split hf
  refine TW.invv (as := [.int p1]) (rest := []) viX12_154_12 hs.k89 dX12_ruleTold_2 rfl rfl (Nat.le_of_ble_eq_true rfl) (c_X12_isRule hs gv1 ?_)
  show AW G mX12_ruleTold (d + 2) 0 0 K 5 [some (.ref 89), some (.int p1), some (.int p2)] [.int v1] (I, J, ρ)
  refine AW.if_ne (tgt := 11) dX12_ruleTold_5 (by decide) (fun hc => ?_) (fun hc => ?_)
  · have hf := (if_neg hc).symm.trans hf
    refine AW.iload_n dX12_ruleTold_11 rfl ?_
    refine AW.if_ne (tgt := 24) dX12_ruleTold_12 (by decide) (fun hc => ?_) (fun hc => ?_)
    · have hf := (if_neg hc).symm.trans hf
      refine AW.iload_n dX12_ruleTold_24 rfl ?_
      refine AW.iconst (v := (1 : Int32)) dX12_ruleTold_25 (by decide) ?_
      refine AW.icmp_ne (tgt := 38) dX12_ruleTold_26 (by decide) (fun hc => ?_) (fun hc => ?_)
      · have hf := (if_neg hc).symm.trans hf
        refine AW.iload_n dX12_ruleTold_38 rfl ?_
        refine AW.iconst (v := (2 : Int32)) dX12_ruleTold_39 (by decide) ?_
        refine AW.bipush (v := (9 : Int32)) dX12_ruleTold_40 (by decide) ?_
        obtain ⟨v2, gv2, hf⟩ := ob_split hf
        refine TW.invs (as := [.int p2, .int (2 : Int32), .int (9 : Int32)]) (rest := []) stX12_133 dX12_ruleTold_42 rfl rfl (Nat.le_of_ble_eq_true rfl) (c_X12_in hs gv2 ?_)
        show AW G mX12_ruleTold (d + 2) 0 0 K 45 [some (.ref 89), some (.int p1), some (.int p2)] [.int v2] (I, J, ρ)
        refine AW.if_eq (tgt := 64) dX12_ruleTold_45 (by decide) (fun hc => ?_) (fun hc => ?_)
        · have hf := (if_pos hc).symm.trans hf
          refine AW.bipush (v := (-7 : Int32)) dX12_ruleTold_64 (by decide) ?_
          obtain rfl := Option.some.inj hf
          exact AW.iret (st := []) dX12_ruleTold_66 rfl hK
        · have hf := (if_neg hc).symm.trans hf
          refine AW.aload_n dX12_ruleTold_48 rfl ?_
          refine TW.getR fX12_41_12 hs.k89 (rf_some hs.r89_12) dX12_ruleTold_49 ?_
          refine AW.bipush (v := (8 : Int32)) dX12_ruleTold_52 (by decide) ?_
          refine AW.iload_n dX12_ruleTold_54 rfl ?_
          refine AW.imul dX12_ruleTold_55 ?_
          refine AW.iload_n dX12_ruleTold_56 rfl ?_
          refine AW.iadd dX12_ruleTold_57 ?_
          refine AW.iconst (v := (2 : Int32)) dX12_ruleTold_58 (by decide) ?_
          refine AW.isub dX12_ruleTold_59 ?_
          obtain ⟨h3, hf⟩ := gd_split hf
          refine TW.iald (x := (I 96 (tn ((((8 : Int32) * p1) + p2) - (2 : Int32))))) hs.k96 h3 rfl dX12_ruleTold_60 ?_
          refine AW.goto (tgt := 66) dX12_ruleTold_61 (by decide) ?_
          obtain rfl := Option.some.inj hf
          exact AW.iret (st := []) dX12_ruleTold_66 rfl hK
      · have hf := (if_pos hc).symm.trans hf
        refine AW.aload_n dX12_ruleTold_29 rfl ?_
        refine TW.getR fX12_38_12 hs.k89 (rf_some hs.r89_11) dX12_ruleTold_30 ?_
        refine AW.iload_n dX12_ruleTold_33 rfl ?_
        obtain ⟨h4, hf⟩ := gd_split hf
        refine TW.iald (x := (I 95 (tn p1))) hs.k95 h4 rfl dX12_ruleTold_34 ?_
        refine AW.goto (tgt := 66) dX12_ruleTold_35 (by decide) ?_
        obtain rfl := Option.some.inj hf
        exact AW.iret (st := []) dX12_ruleTold_66 rfl hK
    · have hf := (if_pos hc).symm.trans hf
      refine AW.aload_n dX12_ruleTold_15 rfl ?_
      refine TW.getR fX12_35_12 hs.k89 (rf_some hs.r89_10) dX12_ruleTold_16 ?_
      refine AW.iload_n dX12_ruleTold_19 rfl ?_
      obtain ⟨h5, hf⟩ := gd_split hf
      refine TW.iald (x := (I 94 (tn p1))) hs.k94 h5 rfl dX12_ruleTold_20 ?_
      refine AW.goto (tgt := 66) dX12_ruleTold_21 (by decide) ?_
      obtain rfl := Option.some.inj hf
      exact AW.iret (st := []) dX12_ruleTold_66 rfl hK
  · have hf := (if_pos hc).symm.trans hf
    refine AW.bipush (v := (-5 : Int32)) dX12_ruleTold_8 (by decide) ?_
    obtain rfl := Option.some.inj hf
    exact AW.iret (st := []) dX12_ruleTold_10 rfl hK
def f_X12_feed_33 (N : Nat) (J : Nat → Nat → Int64) (ρ : Rh) (p1 : Int64) : Nat → (Nat → Nat → Int32) → Int32 → Option ((Nat → Nat → Int32))
  | 0, _, _ => none
  | n + 1, I2, i3 => (if (i3 < (0 : Int32)) then some I2 else (bnd (((p1 >>> (((8 : Int32) * i3).toInt64 &&& 63)) &&& (255 : Int64)).toInt32) fun x4 => (if ¬ ((I2 89 14) < 0 ∨ 160 ≤ tn (I2 89 14)) then f_X12_feed_33 N J ρ p1 n (u2 (u2 I2 97 (tn (I2 89 14)) x4) 89 14 ((I2 89 14) + (1 : Int32))) (i3 + (-1 : Int32)) else none)))
theorem l_X12_feed_33 {G : Gd} {d N : Nat} {K : Ah → Option Value → Prop} {J : Nat → Nat → Int64} {ρ : Rh} {p1 : Int64} (hs : Sh ρ) {o : (Nat → Nat → Int32)} : ∀ (n : Nat) (I2 : Nat → Nat → Int32) (i3 : Int32), f_X12_feed_33 N J ρ p1 n I2 i3 = some o → AW G mX12_feed (d + 1) 0 0 K 75 [some (.ref 89), none, none, none, none] [] (o, J, ρ) → AW G mX12_feed (d + 1) 0 0 K 33 [some (.ref 89), some (.long p1), none, none, some (.int i3)] [] (I2, J, ρ) := by
  intro n
  induction n with
  | zero => intro I2 i3 hf hE; rw [f_X12_feed_33.eq_1] at hf; cases hf
  | succ n ih =>
    intro I2 i3 hf hE
    rw [f_X12_feed_33.eq_2] at hf
    refine AW.iload dX12_feed_33 rfl ?_
    refine AW.if_lt (tgt := 75) dX12_feed_35 (by decide) (fun hc => ?_) (fun hc => ?_)
    · have hf := (if_pos hc).symm.trans hf
      obtain rfl := Option.some.inj hf
      exact AW.weak _ (by exact (And.intro rfl trivial)) hE
    · have hf := (if_neg hc).symm.trans hf
      refine AW.aload_n dX12_feed_38 rfl ?_
      refine TW.getR fX12_44_12 hs.k89 (rf_some hs.r89_13) dX12_feed_39 ?_
      refine AW.aload_n dX12_feed_42 rfl ?_
      refine TW.getI (x := (I2 89 14)) fX12_151_12 hs.k89 rfl dX12_feed_43 ?_
      refine AW.lload_n dX12_feed_46 rfl ?_
      refine AW.bipush (v := (8 : Int32)) dX12_feed_47 (by decide) ?_
      refine AW.iload dX12_feed_49 rfl ?_
      refine AW.imul dX12_feed_51 ?_
      refine AW.lshr dX12_feed_52 ?_
      refine AW.ldc2 dX12_feed_53 kcX12_157 ?_
      refine AW.land dX12_feed_56 ?_
      refine AW.l2i dX12_feed_57 ?_
      obtain ⟨x4, gx4, hf⟩ := bnd_one hf
      refine AW.nmI gx4 ?_
      obtain ⟨h5, hf⟩ := gd_split hf
      refine TW.iast hs.k97 h5 dX12_feed_58 ?_
      show AW G mX12_feed (d + 1) 0 0 K 59 [some (.ref 89), some (.long p1), none, none, some (.int i3)] [] ((u2 I2 97 (tn (I2 89 14)) x4), J, ρ)
      refine AW.aload_n dX12_feed_59 rfl ?_
      refine AW.dup dX12_feed_60 rfl ?_
      refine TW.getI (x := (I2 89 14)) fX12_151_12 hs.k89 (u2_ne (by decide)) dX12_feed_61 ?_
      refine AW.iconst (v := (1 : Int32)) dX12_feed_64 (by decide) ?_
      refine AW.iadd dX12_feed_65 ?_
      refine TW.putI fX12_151_12 hs.k89 (Or.inl rfl) dX12_feed_66 ?_
      show AW G mX12_feed (d + 1) 0 0 K 69 [some (.ref 89), some (.long p1), none, none, some (.int i3)] [] ((u2 (u2 I2 97 (tn (I2 89 14)) x4) 89 14 ((I2 89 14) + (1 : Int32))), J, ρ)
      refine AW.iinc (v := (i3 + (-1 : Int32))) (ls' := [some (.ref 89), some (.long p1), none, none, some (.int (i3 + (-1 : Int32)))]) dX12_feed_69 rfl rfl (Nat.le_of_ble_eq_true rfl) rfl ?_
      refine AW.goto (tgt := 33) dX12_feed_72 (by decide) ?_
      exact AW.weak _ (by exact (And.intro rfl (And.intro rfl (And.intro rfl trivial)))) (ih (u2 (u2 I2 97 (tn (I2 89 14)) x4) 89 14 ((I2 89 14) + (1 : Int32))) (i3 + (-1 : Int32)) hf hE)
def f_X12_feed (N : Nat) (ρ : Rh) (I : Nat → Nat → Int32) (J : Nat → Nat → Int64) (p1 : Int64) (p2 : Int32) : Option ((Nat → Nat → Int32) × Int32) := (Option.bind (f_X12_in N ρ I J p2 (1 : Int32) (8 : Int32)) fun v1 => (if (v1 = (0 : Int32)) then some (I, (-2 : Int32)) else (if (((I 89 14) + p2) ≤ (160 : Int32)) then ((f_X12_feed_33 N J ρ p1 N I (p2 - (1 : Int32))).bind fun j6 => some (j6, (j6 89 14))) else some (I, (-4 : Int32)))))
theorem c_X12_feed {G : Gd} {d N : Nat} {K : Ah → Option Value → Prop} {ρ : Rh} {I : Nat → Nat → Int32} {J : Nat → Nat → Int64} {p1 : Int64} {p2 : Int32} {o : (Nat → Nat → Int32) × Int32} (hs : Sh ρ) (hf : f_X12_feed N ρ I J p1 p2 = some o) (hK : K (o.1, J, ρ) (some (.int o.2))) : AM G (d + 1) 0 0 mX12_feed [.ref 89, .long p1, .int p2] (I, J, ρ) K := by
  unfold f_X12_feed at hf
  refine AM.intro okX12_feed.2.2.2.1 (Nat.le_of_ble_eq_true rfl) [some (.ref 89), some (.long p1), none, some (.int p2), none] rfl ?_
  refine AW.iload_n dX12_feed_0 rfl ?_
  refine AW.iconst (v := (1 : Int32)) dX12_feed_1 (by decide) ?_
  refine AW.bipush (v := (8 : Int32)) dX12_feed_2 (by decide) ?_
  obtain ⟨v1, gv1, hf⟩ := ob_split hf
  refine TW.invs (as := [.int p2, .int (1 : Int32), .int (8 : Int32)]) (rest := []) stX12_133 dX12_feed_4 rfl rfl (Nat.le_of_ble_eq_true rfl) (c_X12_in hs gv1 ?_)
  show AW G mX12_feed (d + 1) 0 0 K 7 [some (.ref 89), some (.long p1), none, some (.int p2), none] [.int v1] (I, J, ρ)
  refine AW.if_ne (tgt := 13) dX12_feed_7 (by decide) (fun hc => ?_) (fun hc => ?_)
  · have hf := (if_neg hc).symm.trans hf
    refine AW.aload_n dX12_feed_13 rfl ?_
    refine TW.getI (x := (I 89 14)) fX12_151_12 hs.k89 rfl dX12_feed_14 ?_
    refine AW.iload_n dX12_feed_17 rfl ?_
    refine AW.iadd dX12_feed_18 ?_
    refine AW.sipush (v := (160 : Int32)) dX12_feed_19 (by decide) ?_
    refine AW.icmp_le (tgt := 28) dX12_feed_22 (by decide) (fun hc => ?_) (fun hc => ?_)
    · have hf := (if_pos hc).symm.trans hf
      refine AW.iload_n dX12_feed_28 rfl ?_
      refine AW.iconst (v := (1 : Int32)) dX12_feed_29 (by decide) ?_
      refine AW.isub dX12_feed_30 ?_
      refine AW.istore (ls' := [some (.ref 89), some (.long p1), none, some (.int p2), some (.int (p2 - (1 : Int32)))]) dX12_feed_31 (Nat.le_of_ble_eq_true rfl) rfl ?_
      obtain ⟨j6, gj6, hf⟩ := ob_split hf
      refine AW.weak _ (by exact (And.intro rfl (And.intro rfl (And.intro rfl trivial)))) (l_X12_feed_33 hs N I (p2 - (1 : Int32)) gj6 ?_)
      show AW G mX12_feed (d + 1) 0 0 K 75 [some (.ref 89), none, none, none, none] [] (j6, J, ρ)
      refine AW.aload_n dX12_feed_75 rfl ?_
      refine TW.getI (x := (j6 89 14)) fX12_151_12 hs.k89 rfl dX12_feed_76 ?_
      obtain rfl := Option.some.inj hf
      exact AW.iret (st := []) dX12_feed_79 rfl hK
    · have hf := (if_neg hc).symm.trans hf
      refine AW.bipush (v := (-4 : Int32)) dX12_feed_25 (by decide) ?_
      obtain rfl := Option.some.inj hf
      exact AW.iret (st := []) dX12_feed_27 rfl hK
  · have hf := (if_pos hc).symm.trans hf
    refine AW.bipush (v := (-2 : Int32)) dX12_feed_10 (by decide) ?_
    obtain rfl := Option.some.inj hf
    exact AW.iret (st := []) dX12_feed_12 rfl hK
def f_X12_letters_4 (N : Nat) (J : Nat → Nat → Int64) (ρ : Rh) : Nat → (Nat → Nat → Int32) → Int64 → Int32 → Option ((Nat → Nat → Int32) × Int64 × Int32)
  | 0, _, _, _ => none
  | n + 1, I1, q2, i3 => (if ((I1 89 14) ≤ (I1 89 37)) then some (I1, q2, i3) else (if ¬ ((I1 89 37) < 0 ∨ 160 ≤ tn (I1 89 37)) then (Option.bind (f_X12_in N ρ I1 J (I1 97 (tn (I1 89 37))) (97 : Int32) (122 : Int32)) fun v5 => (if (v5 = (0 : Int32)) then some (I1, q2, i3) else (((if ((8 : Int32) ≤ i3) then some q2 else (if ¬ ((I1 89 37) < 0 ∨ 160 ≤ tn (I1 89 37)) then some ((q2 <<< ((8 : Int32).toInt64 &&& 63)) ||| ((I1 97 (tn (I1 89 37))).toInt64)) else none)) : Option (Int64)).bind fun j7 => f_X12_letters_4 N J ρ n (u2 I1 89 37 ((I1 89 37) + (1 : Int32))) j7 (i3 + (1 : Int32))))) else none))
theorem l_X12_letters_4 {G : Gd} {d N : Nat} {K : Ah → Option Value → Prop} {J : Nat → Nat → Int64} {ρ : Rh} (hs : Sh ρ) {o : (Nat → Nat → Int32) × Int64 × Int32} : ∀ (n : Nat) (I1 : Nat → Nat → Int32) (q2 : Int64) (i3 : Int32), f_X12_letters_4 N J ρ n I1 q2 i3 = some o → AW G mX12_letters (d + 1) 0 0 K 76 [none, some (.long o.2.1), none, some (.int o.2.2)] [] (o.1, J, ρ) → AW G mX12_letters (d + 1) 0 0 K 4 [some (.ref 89), some (.long q2), none, some (.int i3)] [] (I1, J, ρ) := by
  intro n
  induction n with
  | zero => intro I1 q2 i3 hf hE; rw [f_X12_letters_4.eq_1] at hf; cases hf
  | succ n ih =>
    intro I1 q2 i3 hf hE
    rw [f_X12_letters_4.eq_2] at hf
    refine AW.aload_n dX12_letters_4 rfl ?_
    refine TW.getI (x := (I1 89 37)) fX12_159_12 hs.k89 rfl dX12_letters_5 ?_
    refine AW.aload_n dX12_letters_8 rfl ?_
    refine TW.getI (x := (I1 89 14)) fX12_151_12 hs.k89 rfl dX12_letters_9 ?_
    refine AW.icmp_ge (tgt := 76) dX12_letters_12 (by decide) (fun hc => ?_) (fun hc => ?_)
    · have hf := (if_pos hc).symm.trans hf
      obtain rfl := Option.some.inj hf
      exact AW.weak _ (by exact (And.intro rfl (And.intro rfl trivial))) hE
    · have hf := (if_neg hc).symm.trans hf
      refine AW.aload_n dX12_letters_15 rfl ?_
      refine TW.getR fX12_44_12 hs.k89 (rf_some hs.r89_13) dX12_letters_16 ?_
      refine AW.aload_n dX12_letters_19 rfl ?_
      refine TW.getI (x := (I1 89 37)) fX12_159_12 hs.k89 rfl dX12_letters_20 ?_
      obtain ⟨h4, hf⟩ := gd_split hf
      refine TW.iald (x := (I1 97 (tn (I1 89 37)))) hs.k97 h4 rfl dX12_letters_23 ?_
      refine AW.bipush (v := (97 : Int32)) dX12_letters_24 (by decide) ?_
      refine AW.bipush (v := (122 : Int32)) dX12_letters_26 (by decide) ?_
      obtain ⟨v5, gv5, hf⟩ := ob_split hf
      refine TW.invs (as := [.int (I1 97 (tn (I1 89 37))), .int (97 : Int32), .int (122 : Int32)]) (rest := []) stX12_133 dX12_letters_28 rfl rfl (Nat.le_of_ble_eq_true rfl) (c_X12_in hs gv5 ?_)
      show AW G mX12_letters (d + 1) 0 0 K 31 [some (.ref 89), some (.long q2), none, some (.int i3)] [.int v5] (I1, J, ρ)
      refine AW.if_eq (tgt := 76) dX12_letters_31 (by decide) (fun hc => ?_) (fun hc => ?_)
      · have hf := (if_pos hc).symm.trans hf
        obtain rfl := Option.some.inj hf
        exact AW.weak _ (by exact (And.intro rfl (And.intro rfl trivial))) hE
      · have hf := (if_neg hc).symm.trans hf
        refine AW.iload_n dX12_letters_34 rfl ?_
        refine AW.bipush (v := (8 : Int32)) dX12_letters_35 (by decide) ?_
        obtain ⟨j7, gj7, hf⟩ := ob_split hf
        have Kj7 : AW G mX12_letters (d + 1) 0 0 K 59 [some (.ref 89), none, none, some (.int i3)] [.long j7] (I1, J, ρ) := by
          refine AW.lstore_n (ls' := [some (.ref 89), some (.long j7), none, some (.int i3)]) dX12_letters_59 (Nat.le_of_ble_eq_true rfl) rfl ?_
          refine AW.iinc (v := (i3 + (1 : Int32))) (ls' := [some (.ref 89), some (.long j7), none, some (.int (i3 + (1 : Int32)))]) dX12_letters_60 rfl rfl (Nat.le_of_ble_eq_true rfl) rfl ?_
          refine AW.aload_n dX12_letters_63 rfl ?_
          refine AW.dup dX12_letters_64 rfl ?_
          refine TW.getI (x := (I1 89 37)) fX12_159_12 hs.k89 rfl dX12_letters_65 ?_
          refine AW.iconst (v := (1 : Int32)) dX12_letters_68 (by decide) ?_
          refine AW.iadd dX12_letters_69 ?_
          refine TW.putI fX12_159_12 hs.k89 (Or.inl rfl) dX12_letters_70 ?_
          show AW G mX12_letters (d + 1) 0 0 K 73 [some (.ref 89), some (.long j7), none, some (.int (i3 + (1 : Int32)))] [] ((u2 I1 89 37 ((I1 89 37) + (1 : Int32))), J, ρ)
          refine AW.goto (tgt := 4) dX12_letters_73 (by decide) ?_
          exact AW.weak _ (by exact (And.intro rfl (And.intro rfl (And.intro rfl trivial)))) (ih (u2 I1 89 37 ((I1 89 37) + (1 : Int32))) j7 (i3 + (1 : Int32)) hf hE)
        clear hf; have hf := gj7; clear gj7
        refine AW.icmp_ge (tgt := 58) dX12_letters_37 (by decide) (fun hc => ?_) (fun hc => ?_)
        · have hf := (if_pos hc).symm.trans hf
          refine AW.lload_n dX12_letters_58 rfl ?_
          obtain rfl := Option.some.inj hf
          exact AW.weak _ (by exact (And.intro rfl (And.intro rfl trivial))) Kj7
        · have hf := (if_neg hc).symm.trans hf
          refine AW.lload_n dX12_letters_40 rfl ?_
          refine AW.bipush (v := (8 : Int32)) dX12_letters_41 (by decide) ?_
          refine AW.lshl dX12_letters_43 ?_
          refine AW.aload_n dX12_letters_44 rfl ?_
          refine TW.getR fX12_44_12 hs.k89 (rf_some hs.r89_13) dX12_letters_45 ?_
          refine AW.aload_n dX12_letters_48 rfl ?_
          refine TW.getI (x := (I1 89 37)) fX12_159_12 hs.k89 rfl dX12_letters_49 ?_
          obtain ⟨h6, hf⟩ := gd_split hf
          refine TW.iald (x := (I1 97 (tn (I1 89 37)))) hs.k97 h6 rfl dX12_letters_52 ?_
          refine AW.i2l dX12_letters_53 ?_
          refine AW.lor dX12_letters_54 ?_
          refine AW.goto (tgt := 59) dX12_letters_55 (by decide) ?_
          obtain rfl := Option.some.inj hf
          exact AW.weak _ (by exact (And.intro rfl (And.intro rfl trivial))) Kj7
def f_X12_letters (N : Nat) (ρ : Rh) (I : Nat → Nat → Int32) (J : Nat → Nat → Int64) : Option ((Nat → Nat → Int32) × Int64) := ((f_X12_letters_4 N J ρ N I (0 : Int64) (0 : Int32)).bind fun j8 => (if (j8.2.2 ≤ (5 : Int32)) then some (j8.1, j8.2.1) else some (j8.1, (0 : Int64))))
theorem c_X12_letters {G : Gd} {d N : Nat} {K : Ah → Option Value → Prop} {ρ : Rh} {I : Nat → Nat → Int32} {J : Nat → Nat → Int64} {o : (Nat → Nat → Int32) × Int64} (hs : Sh ρ) (hf : f_X12_letters N ρ I J = some o) (hK : K (o.1, J, ρ) (some (.long o.2))) : AM G (d + 1) 0 0 mX12_letters [.ref 89] (I, J, ρ) K := by
  unfold f_X12_letters at hf
  refine AM.intro okX12_letters.2.2.2.1 (Nat.le_of_ble_eq_true rfl) [some (.ref 89), none, none, none] rfl ?_
  refine AW.lconst (v := (0 : Int64)) dX12_letters_0 (by decide) ?_
  refine AW.lstore_n (ls' := [some (.ref 89), some (.long (0 : Int64)), none, none]) dX12_letters_1 (Nat.le_of_ble_eq_true rfl) rfl ?_
  refine AW.iconst (v := (0 : Int32)) dX12_letters_2 (by decide) ?_
  refine AW.istore_n (ls' := [some (.ref 89), some (.long (0 : Int64)), none, some (.int (0 : Int32))]) dX12_letters_3 (Nat.le_of_ble_eq_true rfl) rfl ?_
  obtain ⟨j8, gj8, hf⟩ := ob_split hf
  refine AW.weak _ (by exact (And.intro rfl (And.intro rfl (And.intro rfl trivial)))) (l_X12_letters_4 hs N I (0 : Int64) (0 : Int32) gj8 ?_)
  show AW G mX12_letters (d + 1) 0 0 K 76 [none, some (.long j8.2.1), none, some (.int j8.2.2)] [] (j8.1, J, ρ)
  refine AW.iload_n dX12_letters_76 rfl ?_
  refine AW.iconst (v := (5 : Int32)) dX12_letters_77 (by decide) ?_
  refine AW.icmp_le (tgt := 85) dX12_letters_78 (by decide) (fun hc => ?_) (fun hc => ?_)
  · have hf := (if_pos hc).symm.trans hf
    refine AW.lload_n dX12_letters_85 rfl ?_
    obtain rfl := Option.some.inj hf
    exact AW.lret (st := []) dX12_letters_86 rfl hK
  · have hf := (if_neg hc).symm.trans hf
    refine AW.lconst (v := (0 : Int64)) dX12_letters_81 (by decide) ?_
    refine AW.goto (tgt := 86) dX12_letters_82 (by decide) ?_
    obtain rfl := Option.some.inj hf
    exact AW.lret (st := []) dX12_letters_86 rfl hK
def f_X12_next_0 (N : Nat) (J : Nat → Nat → Int64) (ρ : Rh) : Nat → (Nat → Nat → Int32) → Option ((Nat → Nat → Int32))
  | 0, _ => none
  | n + 1, I1 => (if ((I1 89 14) ≤ (I1 89 37)) then some I1 else (if ¬ ((I1 89 37) < 0 ∨ 160 ≤ tn (I1 89 37)) then (if ((I1 97 (tn (I1 89 37))) = (32 : Int32)) then f_X12_next_0 N J ρ n (u2 I1 89 37 ((I1 89 37) + (1 : Int32))) else (if ¬ ((I1 89 37) < 0 ∨ 160 ≤ tn (I1 89 37)) then (if ((I1 97 (tn (I1 89 37))) = (10 : Int32)) then f_X12_next_0 N J ρ n (u2 I1 89 37 ((I1 89 37) + (1 : Int32))) else some I1) else none)) else none))
theorem l_X12_next_0 {G : Gd} {d N : Nat} {K : Ah → Option Value → Prop} {J : Nat → Nat → Int64} {ρ : Rh} (hs : Sh ρ) {o : (Nat → Nat → Int32)} : ∀ (n : Nat) (I1 : Nat → Nat → Int32), f_X12_next_0 N J ρ n I1 = some o → AW G mX12_next (d + 2) 0 0 K 52 [some (.ref 89), none, none, none, none] [] (o, J, ρ) → AW G mX12_next (d + 2) 0 0 K 0 [some (.ref 89), none, none, none, none] [] (I1, J, ρ) := by
  intro n
  induction n with
  | zero => intro I1 hf hE; rw [f_X12_next_0.eq_1] at hf; cases hf
  | succ n ih =>
    intro I1 hf hE
    rw [f_X12_next_0.eq_2] at hf
    refine AW.aload_n dX12_next_0 rfl ?_
    refine TW.getI (x := (I1 89 37)) fX12_159_12 hs.k89 rfl dX12_next_1 ?_
    refine AW.aload_n dX12_next_4 rfl ?_
    refine TW.getI (x := (I1 89 14)) fX12_151_12 hs.k89 rfl dX12_next_5 ?_
    refine AW.icmp_ge (tgt := 52) dX12_next_8 (by decide) (fun hc => ?_) (fun hc => ?_)
    · have hf := (if_pos hc).symm.trans hf
      obtain rfl := Option.some.inj hf
      exact AW.weak _ (by exact (And.intro rfl trivial)) hE
    · have hf := (if_neg hc).symm.trans hf
      refine AW.aload_n dX12_next_11 rfl ?_
      refine TW.getR fX12_44_12 hs.k89 (rf_some hs.r89_13) dX12_next_12 ?_
      refine AW.aload_n dX12_next_15 rfl ?_
      refine TW.getI (x := (I1 89 37)) fX12_159_12 hs.k89 rfl dX12_next_16 ?_
      obtain ⟨h2, hf⟩ := gd_split hf
      refine TW.iald (x := (I1 97 (tn (I1 89 37)))) hs.k97 h2 rfl dX12_next_19 ?_
      refine AW.bipush (v := (32 : Int32)) dX12_next_20 (by decide) ?_
      refine AW.icmp_eq (tgt := 39) dX12_next_22 (by decide) (fun hc => ?_) (fun hc => ?_)
      · have hf := (if_pos hc).symm.trans hf
        refine AW.aload_n dX12_next_39 rfl ?_
        refine AW.dup dX12_next_40 rfl ?_
        refine TW.getI (x := (I1 89 37)) fX12_159_12 hs.k89 rfl dX12_next_41 ?_
        refine AW.iconst (v := (1 : Int32)) dX12_next_44 (by decide) ?_
        refine AW.iadd dX12_next_45 ?_
        refine TW.putI fX12_159_12 hs.k89 (Or.inl rfl) dX12_next_46 ?_
        show AW G mX12_next (d + 2) 0 0 K 49 [some (.ref 89), none, none, none, none] [] ((u2 I1 89 37 ((I1 89 37) + (1 : Int32))), J, ρ)
        refine AW.goto (tgt := 0) dX12_next_49 (by decide) ?_
        exact AW.weak _ (by exact (And.intro rfl trivial)) (ih (u2 I1 89 37 ((I1 89 37) + (1 : Int32))) hf hE)
      · have hf := (if_neg hc).symm.trans hf
        refine AW.aload_n dX12_next_25 rfl ?_
        refine TW.getR fX12_44_12 hs.k89 (rf_some hs.r89_13) dX12_next_26 ?_
        refine AW.aload_n dX12_next_29 rfl ?_
        refine TW.getI (x := (I1 89 37)) fX12_159_12 hs.k89 rfl dX12_next_30 ?_
        obtain ⟨h3, hf⟩ := gd_split hf
        refine TW.iald (x := (I1 97 (tn (I1 89 37)))) hs.k97 h3 rfl dX12_next_33 ?_
        refine AW.bipush (v := (10 : Int32)) dX12_next_34 (by decide) ?_
        refine AW.icmp_ne (tgt := 52) dX12_next_36 (by decide) (fun hc => ?_) (fun hc => ?_)
        · have hf := (if_neg hc).symm.trans hf
          obtain rfl := Option.some.inj hf
          exact AW.weak _ (by exact (And.intro rfl trivial)) hE
        · have hf := (if_pos hc).symm.trans hf
          refine AW.aload_n dX12_next_39 rfl ?_
          refine AW.dup dX12_next_40 rfl ?_
          refine TW.getI (x := (I1 89 37)) fX12_159_12 hs.k89 rfl dX12_next_41 ?_
          refine AW.iconst (v := (1 : Int32)) dX12_next_44 (by decide) ?_
          refine AW.iadd dX12_next_45 ?_
          refine TW.putI fX12_159_12 hs.k89 (Or.inl rfl) dX12_next_46 ?_
          show AW G mX12_next (d + 2) 0 0 K 49 [some (.ref 89), none, none, none, none] [] ((u2 I1 89 37 ((I1 89 37) + (1 : Int32))), J, ρ)
          refine AW.goto (tgt := 0) dX12_next_49 (by decide) ?_
          exact AW.weak _ (by exact (And.intro rfl trivial)) (ih (u2 I1 89 37 ((I1 89 37) + (1 : Int32))) hf hE)
def f_X12_next_214 (N : Nat) (J : Nat → Nat → Int64) (ρ : Rh) : Nat → (Nat → Nat → Int32) → Int32 → Option ((Nat → Nat → Int32) × Int32)
  | 0, _, _ => none
  | n + 1, I10, i11 => (if ((I10 89 14) ≤ (I10 89 37)) then some (I10, i11) else (if ¬ ((I10 89 37) < 0 ∨ 160 ≤ tn (I10 89 37)) then (Option.bind (f_X12_in N ρ I10 J (I10 97 (tn (I10 89 37))) (48 : Int32) (57 : Int32)) fun v13 => (if (v13 = (0 : Int32)) then some (I10, i11) else (((if ((4 : Int32) ≤ i11) then some (0 : Int32) else (if ¬ ((I10 89 37) < 0 ∨ 160 ≤ tn (I10 89 37)) then some ((((10 : Int32) * (I10 89 40)) + (I10 97 (tn (I10 89 37)))) - (48 : Int32)) else none)) : Option (Int32)).bind fun j15 => f_X12_next_214 N J ρ n (u2 (u2 I10 89 40 j15) 89 37 ((I10 89 37) + (1 : Int32))) (i11 + (1 : Int32))))) else none))
theorem l_X12_next_214 {G : Gd} {d N : Nat} {K : Ah → Option Value → Prop} {J : Nat → Nat → Int64} {ρ : Rh} (hs : Sh ρ) {o : (Nat → Nat → Int32) × Int32} : ∀ (n : Nat) (I10 : Nat → Nat → Int32) (i11 : Int32), f_X12_next_214 N J ρ n I10 i11 = some o → AW G mX12_next (d + 2) 0 0 K 293 [some (.ref 89), none, some (.int o.2), none, none] [] (o.1, J, ρ) → AW G mX12_next (d + 2) 0 0 K 214 [some (.ref 89), none, some (.int i11), none, none] [] (I10, J, ρ) := by
  intro n
  induction n with
  | zero => intro I10 i11 hf hE; rw [f_X12_next_214.eq_1] at hf; cases hf
  | succ n ih =>
    intro I10 i11 hf hE
    rw [f_X12_next_214.eq_2] at hf
    refine AW.aload_n dX12_next_214 rfl ?_
    refine TW.getI (x := (I10 89 37)) fX12_159_12 hs.k89 rfl dX12_next_215 ?_
    refine AW.aload_n dX12_next_218 rfl ?_
    refine TW.getI (x := (I10 89 14)) fX12_151_12 hs.k89 rfl dX12_next_219 ?_
    refine AW.icmp_ge (tgt := 293) dX12_next_222 (by decide) (fun hc => ?_) (fun hc => ?_)
    · have hf := (if_pos hc).symm.trans hf
      obtain rfl := Option.some.inj hf
      exact AW.weak _ (by exact (And.intro rfl (And.intro rfl trivial))) hE
    · have hf := (if_neg hc).symm.trans hf
      refine AW.aload_n dX12_next_225 rfl ?_
      refine TW.getR fX12_44_12 hs.k89 (rf_some hs.r89_13) dX12_next_226 ?_
      refine AW.aload_n dX12_next_229 rfl ?_
      refine TW.getI (x := (I10 89 37)) fX12_159_12 hs.k89 rfl dX12_next_230 ?_
      obtain ⟨h12, hf⟩ := gd_split hf
      refine TW.iald (x := (I10 97 (tn (I10 89 37)))) hs.k97 h12 rfl dX12_next_233 ?_
      refine AW.bipush (v := (48 : Int32)) dX12_next_234 (by decide) ?_
      refine AW.bipush (v := (57 : Int32)) dX12_next_236 (by decide) ?_
      obtain ⟨v13, gv13, hf⟩ := ob_split hf
      refine TW.invs (as := [.int (I10 97 (tn (I10 89 37))), .int (48 : Int32), .int (57 : Int32)]) (rest := []) stX12_133 dX12_next_238 rfl rfl (Nat.le_of_ble_eq_true rfl) (c_X12_in hs gv13 ?_)
      show AW G mX12_next (d + 2) 0 0 K 241 [some (.ref 89), none, some (.int i11), none, none] [.int v13] (I10, J, ρ)
      refine AW.if_eq (tgt := 293) dX12_next_241 (by decide) (fun hc => ?_) (fun hc => ?_)
      · have hf := (if_pos hc).symm.trans hf
        obtain rfl := Option.some.inj hf
        exact AW.weak _ (by exact (And.intro rfl (And.intro rfl trivial))) hE
      · have hf := (if_neg hc).symm.trans hf
        refine AW.aload_n dX12_next_244 rfl ?_
        refine AW.iload_n dX12_next_245 rfl ?_
        refine AW.iconst (v := (4 : Int32)) dX12_next_246 (by decide) ?_
        obtain ⟨j15, gj15, hf⟩ := ob_split hf
        have Kj15 : AW G mX12_next (d + 2) 0 0 K 274 [some (.ref 89), none, some (.int i11), none, none] [.int j15, .ref 89] (I10, J, ρ) := by
          refine TW.putI fX12_168_12 hs.k89 (Or.inl rfl) dX12_next_274 ?_
          show AW G mX12_next (d + 2) 0 0 K 277 [some (.ref 89), none, some (.int i11), none, none] [] ((u2 I10 89 40 j15), J, ρ)
          refine AW.iinc (v := (i11 + (1 : Int32))) (ls' := [some (.ref 89), none, some (.int (i11 + (1 : Int32))), none, none]) dX12_next_277 rfl rfl (Nat.le_of_ble_eq_true rfl) rfl ?_
          refine AW.aload_n dX12_next_280 rfl ?_
          refine AW.dup dX12_next_281 rfl ?_
          refine TW.getI (x := (I10 89 37)) fX12_159_12 hs.k89 (u2_nk (by decide)) dX12_next_282 ?_
          refine AW.iconst (v := (1 : Int32)) dX12_next_285 (by decide) ?_
          refine AW.iadd dX12_next_286 ?_
          refine TW.putI fX12_159_12 hs.k89 (Or.inl rfl) dX12_next_287 ?_
          show AW G mX12_next (d + 2) 0 0 K 290 [some (.ref 89), none, some (.int (i11 + (1 : Int32))), none, none] [] ((u2 (u2 I10 89 40 j15) 89 37 ((I10 89 37) + (1 : Int32))), J, ρ)
          refine AW.goto (tgt := 214) dX12_next_290 (by decide) ?_
          exact AW.weak _ (by exact (And.intro rfl (And.intro rfl trivial))) (ih (u2 (u2 I10 89 40 j15) 89 37 ((I10 89 37) + (1 : Int32))) (i11 + (1 : Int32)) hf hE)
        clear hf; have hf := gj15; clear gj15
        refine AW.icmp_ge (tgt := 273) dX12_next_247 (by decide) (fun hc => ?_) (fun hc => ?_)
        · have hf := (if_pos hc).symm.trans hf
          refine AW.iconst (v := (0 : Int32)) dX12_next_273 (by decide) ?_
          obtain rfl := Option.some.inj hf
          exact AW.weak _ (by exact (And.intro rfl (And.intro rfl trivial))) Kj15
        · have hf := (if_neg hc).symm.trans hf
          refine AW.bipush (v := (10 : Int32)) dX12_next_250 (by decide) ?_
          refine AW.aload_n dX12_next_252 rfl ?_
          refine TW.getI (x := (I10 89 40)) fX12_168_12 hs.k89 rfl dX12_next_253 ?_
          refine AW.imul dX12_next_256 ?_
          refine AW.aload_n dX12_next_257 rfl ?_
          refine TW.getR fX12_44_12 hs.k89 (rf_some hs.r89_13) dX12_next_258 ?_
          refine AW.aload_n dX12_next_261 rfl ?_
          refine TW.getI (x := (I10 89 37)) fX12_159_12 hs.k89 rfl dX12_next_262 ?_
          obtain ⟨h14, hf⟩ := gd_split hf
          refine TW.iald (x := (I10 97 (tn (I10 89 37)))) hs.k97 h14 rfl dX12_next_265 ?_
          refine AW.iadd dX12_next_266 ?_
          refine AW.bipush (v := (48 : Int32)) dX12_next_267 (by decide) ?_
          refine AW.isub dX12_next_269 ?_
          refine AW.goto (tgt := 274) dX12_next_270 (by decide) ?_
          obtain rfl := Option.some.inj hf
          exact AW.weak _ (by exact (And.intro rfl (And.intro rfl trivial))) Kj15
def f_X12_next_111 (N : Nat) (I : Nat → Nat → Int32) (J : Nat → Nat → Int64) (ρ : Rh) (c19 : Int64) : Nat → Int32 → Option (Int32)
  | 0, _ => none
  | n + 1, i20 => (if ((11 : Int32) ≤ i20) then some i20 else (if ¬ (i20 < 0 ∨ 11 ≤ tn i20) then (if ((J 110 (tn i20)) = c19) then some i20 else f_X12_next_111 N I J ρ c19 n (i20 + (1 : Int32))) else none))
theorem l_X12_next_111 {G : Gd} {d N : Nat} {K : Ah → Option Value → Prop} {I : Nat → Nat → Int32} {J : Nat → Nat → Int64} {ρ : Rh} {c19 : Int64} (hs : Sh ρ) {o : Int32} : ∀ (n : Nat) (i20 : Int32), f_X12_next_111 N I J ρ c19 n i20 = some o → AW G mX12_next (d + 2) 0 0 K 136 [some (.ref 89), none, none, none, some (.int o)] [] (I, J, ρ) → AW G mX12_next (d + 2) 0 0 K 111 [some (.ref 89), none, some (.long c19), none, some (.int i20)] [] (I, J, ρ) := by
  intro n
  induction n with
  | zero => intro i20 hf hE; rw [f_X12_next_111.eq_1] at hf; cases hf
  | succ n ih =>
    intro i20 hf hE
    rw [f_X12_next_111.eq_2] at hf
    refine AW.iload dX12_next_111 rfl ?_
    refine AW.bipush (v := (11 : Int32)) dX12_next_113 (by decide) ?_
    refine AW.icmp_ge (tgt := 136) dX12_next_115 (by decide) (fun hc => ?_) (fun hc => ?_)
    · have hf := (if_pos hc).symm.trans hf
      obtain rfl := Option.some.inj hf
      exact AW.weak _ (by exact (And.intro rfl (And.intro rfl trivial))) hE
    · have hf := (if_neg hc).symm.trans hf
      refine AW.aload_n dX12_next_118 rfl ?_
      refine TW.getR fX12_108_12 hs.k89 (rf_some hs.r89_41) dX12_next_119 ?_
      refine AW.iload dX12_next_122 rfl ?_
      obtain ⟨h21, hf⟩ := gd_split hf
      refine TW.lald (x := (J 110 (tn i20))) hs.k110 h21 rfl dX12_next_124 ?_
      refine AW.lload_n dX12_next_125 rfl ?_
      refine AW.lcmp dX12_next_126 ?_
      refine AW.if_eq (tgt := 136) dX12_next_127 (by decide) (fun hc => ?_) (fun hc => ?_)
      · have hc : ((J 110 (tn i20)) = c19) := (lc_eq _ _).mp hc; have hf := (if_pos hc).symm.trans hf
        obtain rfl := Option.some.inj hf
        exact AW.weak _ (by exact (And.intro rfl (And.intro rfl trivial))) hE
      · have hc : ¬ ((J 110 (tn i20)) = c19) := fun z => hc ((lc_eq _ _).mpr z); have hf := (if_neg hc).symm.trans hf
        refine AW.iinc (v := (i20 + (1 : Int32))) (ls' := [some (.ref 89), none, some (.long c19), none, some (.int (i20 + (1 : Int32)))]) dX12_next_130 rfl rfl (Nat.le_of_ble_eq_true rfl) rfl ?_
        refine AW.goto (tgt := 111) dX12_next_133 (by decide) ?_
        exact AW.weak _ (by exact (And.intro rfl (And.intro rfl (And.intro rfl trivial)))) (ih (i20 + (1 : Int32)) hf hE)
def f_X12_next (N : Nat) (ρ : Rh) (I : Nat → Nat → Int32) (J : Nat → Nat → Int64) : Option ((Nat → Nat → Int32)) := ((f_X12_next_0 N J ρ N I).bind fun j4 => (if ((j4 89 37) = (j4 89 14)) then some (u2 (u2 (u2 j4 89 38 (j4 89 37)) 89 39 (0 : Int32)) 89 40 (0 : Int32)) else (if ¬ ((j4 89 37) < 0 ∨ 160 ≤ tn (j4 89 37)) then (Option.bind (f_X12_in N ρ (u2 (u2 (u2 j4 89 38 (j4 89 37)) 89 39 (0 : Int32)) 89 40 (0 : Int32)) J (j4 97 (tn (j4 89 37))) (97 : Int32) (122 : Int32)) fun v6 => (if (v6 = (0 : Int32)) then (Option.bind (f_X12_in N ρ (u2 (u2 (u2 j4 89 38 (j4 89 37)) 89 39 (0 : Int32)) 89 40 (0 : Int32)) J (j4 97 (tn (j4 89 37))) (48 : Int32) (57 : Int32)) fun v7 => (if (v7 = (0 : Int32)) then (((if ((j4 97 (tn (j4 89 37))) = (40 : Int32)) then some (1 : Int32) else (if ((j4 97 (tn (j4 89 37))) = (41 : Int32)) then some (1 : Int32) else (if ((j4 97 (tn (j4 89 37))) = (59 : Int32)) then some (1 : Int32) else (if ((j4 97 (tn (j4 89 37))) = (43 : Int32)) then some (1 : Int32) else (if ((j4 97 (tn (j4 89 37))) = (45 : Int32)) then some (1 : Int32) else (if ((j4 97 (tn (j4 89 37))) = (42 : Int32)) then some (1 : Int32) else (if ((j4 97 (tn (j4 89 37))) = (60 : Int32)) then some (1 : Int32) else (if ((j4 97 (tn (j4 89 37))) = (61 : Int32)) then some (1 : Int32) else some (0 : Int32))))))))) : Option (Int32)).bind fun j8 => (((if (j8 = (0 : Int32)) then some (-1 : Int32) else some (j4 97 (tn (j4 89 37)))) : Option (Int32)).bind fun j9 => some (u2 (u2 (u2 (u2 (u2 j4 89 38 (j4 89 37)) 89 39 (0 : Int32)) 89 40 (0 : Int32)) 89 39 j9) 89 37 ((j4 89 37) + (1 : Int32))))) else ((f_X12_next_214 N J ρ N (u2 (u2 (u2 j4 89 38 (j4 89 37)) 89 39 (0 : Int32)) 89 40 (0 : Int32)) (0 : Int32)).bind fun j16 => (((if (j16.2 ≤ (4 : Int32)) then some (1 : Int32) else some (-1 : Int32)) : Option (Int32)).bind fun j17 => some (u2 j16.1 89 39 j17))))) else (Option.bind (f_X12_letters N ρ (u2 (u2 (u2 j4 89 38 (j4 89 37)) 89 39 (0 : Int32)) 89 40 (0 : Int32)) J) fun v18 => ((f_X12_next_111 N v18.1 J ρ v18.2 N (0 : Int32)).bind fun j22 => (((if ((2 : Int32) ≤ j22) then (if ((8 : Int32) ≤ j22) then (if (j22 = (11 : Int32)) then some (-1 : Int32) else some (((4 : Int32) + j22) - (8 : Int32))) else some (2 : Int32)) else some (3 : Int32)) : Option (Int32)).bind fun j23 => (((if ((2 : Int32) ≤ j22) then some (j22 - (2 : Int32)) else some j22) : Option (Int32)).bind fun j24 => some (u2 (u2 v18.1 89 39 j23) 89 40 j24))))))) else none)))
theorem c_X12_next {G : Gd} {d N : Nat} {K : Ah → Option Value → Prop} {ρ : Rh} {I : Nat → Nat → Int32} {J : Nat → Nat → Int64} {o : (Nat → Nat → Int32)} (hs : Sh ρ) (hf : f_X12_next N ρ I J = some o) (hK : K (o, J, ρ) none) : AM G (d + 2) 0 0 mX12_next [.ref 89] (I, J, ρ) K := by
  unfold f_X12_next at hf
  refine AM.intro okX12_next.2.2.2.1 (Nat.le_of_ble_eq_true rfl) [some (.ref 89), none, none, none, none] rfl ?_
  obtain ⟨j4, gj4, hf⟩ := ob_split hf
  refine AW.weak _ (by exact (And.intro rfl trivial)) (l_X12_next_0 hs N I gj4 ?_)
  show AW G mX12_next (d + 2) 0 0 K 52 [some (.ref 89), none, none, none, none] [] (j4, J, ρ)
  refine AW.aload_n dX12_next_52 rfl ?_
  refine AW.aload_n dX12_next_53 rfl ?_
  refine TW.getI (x := (j4 89 37)) fX12_159_12 hs.k89 rfl dX12_next_54 ?_
  refine TW.putI fX12_162_12 hs.k89 (Or.inl rfl) dX12_next_57 ?_
  show AW G mX12_next (d + 2) 0 0 K 60 [some (.ref 89), none, none, none, none] [] ((u2 j4 89 38 (j4 89 37)), J, ρ)
  refine AW.aload_n dX12_next_60 rfl ?_
  refine AW.iconst (v := (0 : Int32)) dX12_next_61 (by decide) ?_
  refine TW.putI fX12_165_12 hs.k89 (Or.inl rfl) dX12_next_62 ?_
  show AW G mX12_next (d + 2) 0 0 K 65 [some (.ref 89), none, none, none, none] [] ((u2 (u2 j4 89 38 (j4 89 37)) 89 39 (0 : Int32)), J, ρ)
  refine AW.aload_n dX12_next_65 rfl ?_
  refine AW.iconst (v := (0 : Int32)) dX12_next_66 (by decide) ?_
  refine TW.putI fX12_168_12 hs.k89 (Or.inl rfl) dX12_next_67 ?_
  show AW G mX12_next (d + 2) 0 0 K 70 [some (.ref 89), none, none, none, none] [] ((u2 (u2 (u2 j4 89 38 (j4 89 37)) 89 39 (0 : Int32)) 89 40 (0 : Int32)), J, ρ)
  refine AW.aload_n dX12_next_70 rfl ?_
  refine TW.getI (x := (j4 89 37)) fX12_159_12 hs.k89 ((u2_nk (by decide)).trans ((u2_nk (by decide)).trans (u2_nk (by decide)))) dX12_next_71 ?_
  refine AW.aload_n dX12_next_74 rfl ?_
  refine TW.getI (x := (j4 89 14)) fX12_151_12 hs.k89 ((u2_nk (by decide)).trans ((u2_nk (by decide)).trans (u2_nk (by decide)))) dX12_next_75 ?_
  refine AW.icmp_ne (tgt := 82) dX12_next_78 (by decide) (fun hc => ?_) (fun hc => ?_)
  · have hf := (if_neg hc).symm.trans hf
    refine AW.aload_n dX12_next_82 rfl ?_
    refine TW.getR fX12_44_12 hs.k89 (rf_some hs.r89_13) dX12_next_83 ?_
    refine AW.aload_n dX12_next_86 rfl ?_
    refine TW.getI (x := (j4 89 37)) fX12_159_12 hs.k89 ((u2_nk (by decide)).trans ((u2_nk (by decide)).trans (u2_nk (by decide)))) dX12_next_87 ?_
    obtain ⟨h5, hf⟩ := gd_split hf
    refine TW.iald (x := (j4 97 (tn (j4 89 37)))) hs.k97 h5 ((u2_ne (by decide)).trans ((u2_ne (by decide)).trans (u2_ne (by decide)))) dX12_next_90 ?_
    refine AW.istore_n (ls' := [some (.ref 89), some (.int (j4 97 (tn (j4 89 37)))), none, none, none]) dX12_next_91 (Nat.le_of_ble_eq_true rfl) rfl ?_
    refine AW.iload_n dX12_next_92 rfl ?_
    refine AW.bipush (v := (97 : Int32)) dX12_next_93 (by decide) ?_
    refine AW.bipush (v := (122 : Int32)) dX12_next_95 (by decide) ?_
    obtain ⟨v6, gv6, hf⟩ := ob_split hf
    refine TW.invs (as := [.int (j4 97 (tn (j4 89 37))), .int (97 : Int32), .int (122 : Int32)]) (rest := []) stX12_133 dX12_next_97 rfl rfl (Nat.le_of_ble_eq_true rfl) (c_X12_in hs gv6 ?_)
    show AW G mX12_next (d + 2) 0 0 K 100 [some (.ref 89), some (.int (j4 97 (tn (j4 89 37)))), none, none, none] [.int v6] ((u2 (u2 (u2 j4 89 38 (j4 89 37)) 89 39 (0 : Int32)) 89 40 (0 : Int32)), J, ρ)
    refine AW.if_eq (tgt := 201) dX12_next_100 (by decide) (fun hc => ?_) (fun hc => ?_)
    · have hf := (if_pos hc).symm.trans hf
      refine AW.iload_n dX12_next_201 rfl ?_
      refine AW.bipush (v := (48 : Int32)) dX12_next_202 (by decide) ?_
      refine AW.bipush (v := (57 : Int32)) dX12_next_204 (by decide) ?_
      obtain ⟨v7, gv7, hf⟩ := ob_split hf
      refine TW.invs (as := [.int (j4 97 (tn (j4 89 37))), .int (48 : Int32), .int (57 : Int32)]) (rest := []) stX12_133 dX12_next_206 rfl rfl (Nat.le_of_ble_eq_true rfl) (c_X12_in hs gv7 ?_)
      show AW G mX12_next (d + 2) 0 0 K 209 [some (.ref 89), some (.int (j4 97 (tn (j4 89 37)))), none, none, none] [.int v7] ((u2 (u2 (u2 j4 89 38 (j4 89 37)) 89 39 (0 : Int32)) 89 40 (0 : Int32)), J, ρ)
      refine AW.if_eq (tgt := 310) dX12_next_209 (by decide) (fun hc => ?_) (fun hc => ?_)
      · have hf := (if_pos hc).symm.trans hf
        refine AW.iload_n dX12_next_310 rfl ?_
        refine AW.bipush (v := (40 : Int32)) dX12_next_311 (by decide) ?_
        obtain ⟨j8, gj8, hf⟩ := ob_split hf
        have Kj8 : AW G mX12_next (d + 2) 0 0 K 363 [some (.ref 89), some (.int (j4 97 (tn (j4 89 37)))), none, none, none] [.int j8] ((u2 (u2 (u2 j4 89 38 (j4 89 37)) 89 39 (0 : Int32)) 89 40 (0 : Int32)), J, ρ) := by
          refine AW.istore_n (ls' := [some (.ref 89), some (.int (j4 97 (tn (j4 89 37)))), some (.int j8), none, none]) dX12_next_363 (Nat.le_of_ble_eq_true rfl) rfl ?_
          refine AW.aload_n dX12_next_364 rfl ?_
          refine AW.iload_n dX12_next_365 rfl ?_
          obtain ⟨j9, gj9, hf⟩ := ob_split hf
          have Kj9 : AW G mX12_next (d + 2) 0 0 K 374 [some (.ref 89), none, none, none, none] [.int j9, .ref 89] ((u2 (u2 (u2 j4 89 38 (j4 89 37)) 89 39 (0 : Int32)) 89 40 (0 : Int32)), J, ρ) := by
            refine TW.putI fX12_165_12 hs.k89 (Or.inl rfl) dX12_next_374 ?_
            show AW G mX12_next (d + 2) 0 0 K 377 [some (.ref 89), none, none, none, none] [] ((u2 (u2 (u2 (u2 j4 89 38 (j4 89 37)) 89 39 (0 : Int32)) 89 40 (0 : Int32)) 89 39 j9), J, ρ)
            refine AW.aload_n dX12_next_377 rfl ?_
            refine AW.dup dX12_next_378 rfl ?_
            refine TW.getI (x := (j4 89 37)) fX12_159_12 hs.k89 ((u2_nk (by decide)).trans ((u2_nk (by decide)).trans ((u2_nk (by decide)).trans (u2_nk (by decide))))) dX12_next_379 ?_
            refine AW.iconst (v := (1 : Int32)) dX12_next_382 (by decide) ?_
            refine AW.iadd dX12_next_383 ?_
            refine TW.putI fX12_159_12 hs.k89 (Or.inl rfl) dX12_next_384 ?_
            show AW G mX12_next (d + 2) 0 0 K 387 [some (.ref 89), none, none, none, none] [] ((u2 (u2 (u2 (u2 (u2 j4 89 38 (j4 89 37)) 89 39 (0 : Int32)) 89 40 (0 : Int32)) 89 39 j9) 89 37 ((j4 89 37) + (1 : Int32))), J, ρ)
            obtain rfl := Option.some.inj hf
            exact AW.vret (st := []) dX12_next_387 rfl hK
          clear hf; have hf := gj9; clear gj9
          refine AW.if_eq (tgt := 373) dX12_next_366 (by decide) (fun hc => ?_) (fun hc => ?_)
          · have hf := (if_pos hc).symm.trans hf
            refine AW.iconst (v := (-1 : Int32)) dX12_next_373 (by decide) ?_
            obtain rfl := Option.some.inj hf
            exact AW.weak _ (by exact (And.intro rfl trivial)) Kj9
          · have hf := (if_neg hc).symm.trans hf
            refine AW.iload_n dX12_next_369 rfl ?_
            refine AW.goto (tgt := 374) dX12_next_370 (by decide) ?_
            obtain rfl := Option.some.inj hf
            exact AW.weak _ (by exact (And.intro rfl trivial)) Kj9
        clear hf; have hf := gj8; clear gj8
        refine AW.icmp_eq (tgt := 358) dX12_next_313 (by decide) (fun hc => ?_) (fun hc => ?_)
        · have hf := (if_pos hc).symm.trans hf
          refine AW.iconst (v := (1 : Int32)) dX12_next_358 (by decide) ?_
          refine AW.goto (tgt := 363) dX12_next_359 (by decide) ?_
          obtain rfl := Option.some.inj hf
          exact AW.weak _ (by exact (And.intro rfl (And.intro rfl trivial))) Kj8
        · have hf := (if_neg hc).symm.trans hf
          refine AW.iload_n dX12_next_316 rfl ?_
          refine AW.bipush (v := (41 : Int32)) dX12_next_317 (by decide) ?_
          refine AW.icmp_eq (tgt := 358) dX12_next_319 (by decide) (fun hc => ?_) (fun hc => ?_)
          · have hf := (if_pos hc).symm.trans hf
            refine AW.iconst (v := (1 : Int32)) dX12_next_358 (by decide) ?_
            refine AW.goto (tgt := 363) dX12_next_359 (by decide) ?_
            obtain rfl := Option.some.inj hf
            exact AW.weak _ (by exact (And.intro rfl (And.intro rfl trivial))) Kj8
          · have hf := (if_neg hc).symm.trans hf
            refine AW.iload_n dX12_next_322 rfl ?_
            refine AW.bipush (v := (59 : Int32)) dX12_next_323 (by decide) ?_
            refine AW.icmp_eq (tgt := 358) dX12_next_325 (by decide) (fun hc => ?_) (fun hc => ?_)
            · have hf := (if_pos hc).symm.trans hf
              refine AW.iconst (v := (1 : Int32)) dX12_next_358 (by decide) ?_
              refine AW.goto (tgt := 363) dX12_next_359 (by decide) ?_
              obtain rfl := Option.some.inj hf
              exact AW.weak _ (by exact (And.intro rfl (And.intro rfl trivial))) Kj8
            · have hf := (if_neg hc).symm.trans hf
              refine AW.iload_n dX12_next_328 rfl ?_
              refine AW.bipush (v := (43 : Int32)) dX12_next_329 (by decide) ?_
              refine AW.icmp_eq (tgt := 358) dX12_next_331 (by decide) (fun hc => ?_) (fun hc => ?_)
              · have hf := (if_pos hc).symm.trans hf
                refine AW.iconst (v := (1 : Int32)) dX12_next_358 (by decide) ?_
                refine AW.goto (tgt := 363) dX12_next_359 (by decide) ?_
                obtain rfl := Option.some.inj hf
                exact AW.weak _ (by exact (And.intro rfl (And.intro rfl trivial))) Kj8
              · have hf := (if_neg hc).symm.trans hf
                refine AW.iload_n dX12_next_334 rfl ?_
                refine AW.bipush (v := (45 : Int32)) dX12_next_335 (by decide) ?_
                refine AW.icmp_eq (tgt := 358) dX12_next_337 (by decide) (fun hc => ?_) (fun hc => ?_)
                · have hf := (if_pos hc).symm.trans hf
                  refine AW.iconst (v := (1 : Int32)) dX12_next_358 (by decide) ?_
                  refine AW.goto (tgt := 363) dX12_next_359 (by decide) ?_
                  obtain rfl := Option.some.inj hf
                  exact AW.weak _ (by exact (And.intro rfl (And.intro rfl trivial))) Kj8
                · have hf := (if_neg hc).symm.trans hf
                  refine AW.iload_n dX12_next_340 rfl ?_
                  refine AW.bipush (v := (42 : Int32)) dX12_next_341 (by decide) ?_
                  refine AW.icmp_eq (tgt := 358) dX12_next_343 (by decide) (fun hc => ?_) (fun hc => ?_)
                  · have hf := (if_pos hc).symm.trans hf
                    refine AW.iconst (v := (1 : Int32)) dX12_next_358 (by decide) ?_
                    refine AW.goto (tgt := 363) dX12_next_359 (by decide) ?_
                    obtain rfl := Option.some.inj hf
                    exact AW.weak _ (by exact (And.intro rfl (And.intro rfl trivial))) Kj8
                  · have hf := (if_neg hc).symm.trans hf
                    refine AW.iload_n dX12_next_346 rfl ?_
                    refine AW.bipush (v := (60 : Int32)) dX12_next_347 (by decide) ?_
                    refine AW.icmp_eq (tgt := 358) dX12_next_349 (by decide) (fun hc => ?_) (fun hc => ?_)
                    · have hf := (if_pos hc).symm.trans hf
                      refine AW.iconst (v := (1 : Int32)) dX12_next_358 (by decide) ?_
                      refine AW.goto (tgt := 363) dX12_next_359 (by decide) ?_
                      obtain rfl := Option.some.inj hf
                      exact AW.weak _ (by exact (And.intro rfl (And.intro rfl trivial))) Kj8
                    · have hf := (if_neg hc).symm.trans hf
                      refine AW.iload_n dX12_next_352 rfl ?_
                      refine AW.bipush (v := (61 : Int32)) dX12_next_353 (by decide) ?_
                      refine AW.icmp_ne (tgt := 362) dX12_next_355 (by decide) (fun hc => ?_) (fun hc => ?_)
                      · have hf := (if_neg hc).symm.trans hf
                        refine AW.iconst (v := (0 : Int32)) dX12_next_362 (by decide) ?_
                        obtain rfl := Option.some.inj hf
                        exact AW.weak _ (by exact (And.intro rfl (And.intro rfl trivial))) Kj8
                      · have hf := (if_pos hc).symm.trans hf
                        refine AW.iconst (v := (1 : Int32)) dX12_next_358 (by decide) ?_
                        refine AW.goto (tgt := 363) dX12_next_359 (by decide) ?_
                        obtain rfl := Option.some.inj hf
                        exact AW.weak _ (by exact (And.intro rfl (And.intro rfl trivial))) Kj8
      · have hf := (if_neg hc).symm.trans hf
        refine AW.iconst (v := (0 : Int32)) dX12_next_212 (by decide) ?_
        refine AW.istore_n (ls' := [some (.ref 89), some (.int (j4 97 (tn (j4 89 37)))), some (.int (0 : Int32)), none, none]) dX12_next_213 (Nat.le_of_ble_eq_true rfl) rfl ?_
        obtain ⟨j16, gj16, hf⟩ := ob_split hf
        refine AW.weak _ (by exact (And.intro rfl (And.intro rfl trivial))) (l_X12_next_214 hs N (u2 (u2 (u2 j4 89 38 (j4 89 37)) 89 39 (0 : Int32)) 89 40 (0 : Int32)) (0 : Int32) gj16 ?_)
        show AW G mX12_next (d + 2) 0 0 K 293 [some (.ref 89), none, some (.int j16.2), none, none] [] (j16.1, J, ρ)
        refine AW.aload_n dX12_next_293 rfl ?_
        refine AW.iload_n dX12_next_294 rfl ?_
        refine AW.iconst (v := (4 : Int32)) dX12_next_295 (by decide) ?_
        obtain ⟨j17, gj17, hf⟩ := ob_split hf
        have Kj17 : AW G mX12_next (d + 2) 0 0 K 304 [none, none, none, none, none] [.int j17, .ref 89] (j16.1, J, ρ) := by
          refine TW.putI fX12_165_12 hs.k89 (Or.inl rfl) dX12_next_304 ?_
          show AW G mX12_next (d + 2) 0 0 K 307 [none, none, none, none, none] [] ((u2 j16.1 89 39 j17), J, ρ)
          refine AW.goto (tgt := 387) dX12_next_307 (by decide) ?_
          obtain rfl := Option.some.inj hf
          exact AW.vret (st := []) dX12_next_387 rfl hK
        clear hf; have hf := gj17; clear gj17
        refine AW.icmp_le (tgt := 303) dX12_next_296 (by decide) (fun hc => ?_) (fun hc => ?_)
        · have hf := (if_pos hc).symm.trans hf
          refine AW.iconst (v := (1 : Int32)) dX12_next_303 (by decide) ?_
          obtain rfl := Option.some.inj hf
          exact AW.weak _ (by exact trivial) Kj17
        · have hf := (if_neg hc).symm.trans hf
          refine AW.iconst (v := (-1 : Int32)) dX12_next_299 (by decide) ?_
          refine AW.goto (tgt := 304) dX12_next_300 (by decide) ?_
          obtain rfl := Option.some.inj hf
          exact AW.weak _ (by exact trivial) Kj17
    · have hf := (if_neg hc).symm.trans hf
      refine AW.aload_n dX12_next_103 rfl ?_
      obtain ⟨v18, gv18, hf⟩ := ob_split hf
      refine TW.invv (as := []) (rest := []) viX12_171_12 hs.k89 dX12_next_104 rfl rfl (Nat.le_of_ble_eq_true rfl) (c_X12_letters hs gv18 ?_)
      show AW G mX12_next (d + 2) 0 0 K 107 [some (.ref 89), some (.int (j4 97 (tn (j4 89 37)))), none, none, none] [.long v18.2] (v18.1, J, ρ)
      refine AW.lstore_n (ls' := [some (.ref 89), some (.int (j4 97 (tn (j4 89 37)))), some (.long v18.2), none, none]) dX12_next_107 (Nat.le_of_ble_eq_true rfl) rfl ?_
      refine AW.iconst (v := (0 : Int32)) dX12_next_108 (by decide) ?_
      refine AW.istore (ls' := [some (.ref 89), some (.int (j4 97 (tn (j4 89 37)))), some (.long v18.2), none, some (.int (0 : Int32))]) dX12_next_109 (Nat.le_of_ble_eq_true rfl) rfl ?_
      obtain ⟨j22, gj22, hf⟩ := ob_split hf
      refine AW.weak _ (by exact (And.intro rfl (And.intro rfl (And.intro rfl trivial)))) (l_X12_next_111 hs N (0 : Int32) gj22 ?_)
      show AW G mX12_next (d + 2) 0 0 K 136 [some (.ref 89), none, none, none, some (.int j22)] [] (v18.1, J, ρ)
      refine AW.aload_n dX12_next_136 rfl ?_
      refine AW.iload dX12_next_137 rfl ?_
      refine AW.iconst (v := (2 : Int32)) dX12_next_139 (by decide) ?_
      obtain ⟨j23, gj23, hf⟩ := ob_split hf
      have Kj23 : AW G mX12_next (d + 2) 0 0 K 176 [some (.ref 89), none, none, none, some (.int j22)] [.int j23, .ref 89] (v18.1, J, ρ) := by
        refine TW.putI fX12_165_12 hs.k89 (Or.inl rfl) dX12_next_176 ?_
        show AW G mX12_next (d + 2) 0 0 K 179 [some (.ref 89), none, none, none, some (.int j22)] [] ((u2 v18.1 89 39 j23), J, ρ)
        refine AW.aload_n dX12_next_179 rfl ?_
        refine AW.iload dX12_next_180 rfl ?_
        refine AW.iconst (v := (2 : Int32)) dX12_next_182 (by decide) ?_
        obtain ⟨j24, gj24, hf⟩ := ob_split hf
        have Kj24 : AW G mX12_next (d + 2) 0 0 K 195 [none, none, none, none, none] [.int j24, .ref 89] ((u2 v18.1 89 39 j23), J, ρ) := by
          refine TW.putI fX12_168_12 hs.k89 (Or.inl rfl) dX12_next_195 ?_
          show AW G mX12_next (d + 2) 0 0 K 198 [none, none, none, none, none] [] ((u2 (u2 v18.1 89 39 j23) 89 40 j24), J, ρ)
          refine AW.goto (tgt := 387) dX12_next_198 (by decide) ?_
          obtain rfl := Option.some.inj hf
          exact AW.vret (st := []) dX12_next_387 rfl hK
        clear hf; have hf := gj24; clear gj24
        refine AW.icmp_ge (tgt := 191) dX12_next_183 (by decide) (fun hc => ?_) (fun hc => ?_)
        · have hf := (if_pos hc).symm.trans hf
          refine AW.iload dX12_next_191 rfl ?_
          refine AW.iconst (v := (2 : Int32)) dX12_next_193 (by decide) ?_
          refine AW.isub dX12_next_194 ?_
          obtain rfl := Option.some.inj hf
          exact AW.weak _ (by exact trivial) Kj24
        · have hf := (if_neg hc).symm.trans hf
          refine AW.iload dX12_next_186 rfl ?_
          refine AW.goto (tgt := 195) dX12_next_188 (by decide) ?_
          obtain rfl := Option.some.inj hf
          exact AW.weak _ (by exact trivial) Kj24
      clear hf; have hf := gj23; clear gj23
      refine AW.icmp_ge (tgt := 147) dX12_next_140 (by decide) (fun hc => ?_) (fun hc => ?_)
      · have hf := (if_pos hc).symm.trans hf
        refine AW.iload dX12_next_147 rfl ?_
        refine AW.bipush (v := (8 : Int32)) dX12_next_149 (by decide) ?_
        refine AW.icmp_ge (tgt := 158) dX12_next_151 (by decide) (fun hc => ?_) (fun hc => ?_)
        · have hf := (if_pos hc).symm.trans hf
          refine AW.iload dX12_next_158 rfl ?_
          refine AW.bipush (v := (11 : Int32)) dX12_next_160 (by decide) ?_
          refine AW.icmp_ne (tgt := 169) dX12_next_162 (by decide) (fun hc => ?_) (fun hc => ?_)
          · have hf := (if_neg hc).symm.trans hf
            refine AW.iconst (v := (4 : Int32)) dX12_next_169 (by decide) ?_
            refine AW.iload dX12_next_170 rfl ?_
            refine AW.iadd dX12_next_172 ?_
            refine AW.bipush (v := (8 : Int32)) dX12_next_173 (by decide) ?_
            refine AW.isub dX12_next_175 ?_
            obtain rfl := Option.some.inj hf
            exact AW.weak _ (by exact (And.intro rfl (And.intro rfl trivial))) Kj23
          · have hf := (if_pos hc).symm.trans hf
            refine AW.iconst (v := (-1 : Int32)) dX12_next_165 (by decide) ?_
            refine AW.goto (tgt := 176) dX12_next_166 (by decide) ?_
            obtain rfl := Option.some.inj hf
            exact AW.weak _ (by exact (And.intro rfl (And.intro rfl trivial))) Kj23
        · have hf := (if_neg hc).symm.trans hf
          refine AW.iconst (v := (2 : Int32)) dX12_next_154 (by decide) ?_
          refine AW.goto (tgt := 176) dX12_next_155 (by decide) ?_
          obtain rfl := Option.some.inj hf
          exact AW.weak _ (by exact (And.intro rfl (And.intro rfl trivial))) Kj23
      · have hf := (if_neg hc).symm.trans hf
        refine AW.iconst (v := (3 : Int32)) dX12_next_143 (by decide) ?_
        refine AW.goto (tgt := 176) dX12_next_144 (by decide) ?_
        obtain rfl := Option.some.inj hf
        exact AW.weak _ (by exact (And.intro rfl (And.intro rfl trivial))) Kj23
  · have hf := (if_pos hc).symm.trans hf
    obtain rfl := Option.some.inj hf
    exact AW.vret (st := []) dX12_next_81 rfl hK
def f_X12_rank (N : Nat) (ρ : Rh) (I : Nat → Nat → Int32) (J : Nat → Nat → Int64) (p1 : Int32) : Option (Int32) := (if (p1 = (0 : Int32)) then some (0 : Int32) else (if (p1 = (11 : Int32)) then some (1 : Int32) else (if (p1 = (12 : Int32)) then some (2 : Int32) else (if (p1 = (13 : Int32)) then some (3 : Int32) else (if ((15 : Int32) < p1) then (if ((17 : Int32) < p1) then (if (p1 = (18 : Int32)) then some (6 : Int32) else some (7 : Int32)) else some (5 : Int32)) else some (4 : Int32))))))
theorem c_X12_rank {G : Gd} {d N : Nat} {K : Ah → Option Value → Prop} {ρ : Rh} {I : Nat → Nat → Int32} {J : Nat → Nat → Int64} {p1 : Int32} {o : Int32} (hs : Sh ρ) (hf : f_X12_rank N ρ I J p1 = some o) (hK : K (I, J, ρ) (some (.int o))) : AM G d 0 0 mX12_rank [.int p1] (I, J, ρ) K := by
  unfold f_X12_rank at hf
  refine AM.intro okX12_rank.2.2.2.1 (Nat.le_of_ble_eq_true rfl) [some (.int p1)] rfl ?_
  refine AW.iload_n dX12_rank_0 rfl ?_
  refine AW.if_ne (tgt := 8) dX12_rank_1 (by decide) (fun hc => ?_) (fun hc => ?_)
  · have hf := (if_neg hc).symm.trans hf
    refine AW.iload_n dX12_rank_8 rfl ?_
    refine AW.bipush (v := (11 : Int32)) dX12_rank_9 (by decide) ?_
    refine AW.icmp_ne (tgt := 18) dX12_rank_11 (by decide) (fun hc => ?_) (fun hc => ?_)
    · have hf := (if_neg hc).symm.trans hf
      refine AW.iload_n dX12_rank_18 rfl ?_
      refine AW.bipush (v := (12 : Int32)) dX12_rank_19 (by decide) ?_
      refine AW.icmp_ne (tgt := 28) dX12_rank_21 (by decide) (fun hc => ?_) (fun hc => ?_)
      · have hf := (if_neg hc).symm.trans hf
        refine AW.iload_n dX12_rank_28 rfl ?_
        refine AW.bipush (v := (13 : Int32)) dX12_rank_29 (by decide) ?_
        refine AW.icmp_ne (tgt := 38) dX12_rank_31 (by decide) (fun hc => ?_) (fun hc => ?_)
        · have hf := (if_neg hc).symm.trans hf
          refine AW.iload_n dX12_rank_38 rfl ?_
          refine AW.bipush (v := (15 : Int32)) dX12_rank_39 (by decide) ?_
          refine AW.icmp_gt (tgt := 48) dX12_rank_41 (by decide) (fun hc => ?_) (fun hc => ?_)
          · have hf := (if_pos hc).symm.trans hf
            refine AW.iload_n dX12_rank_48 rfl ?_
            refine AW.bipush (v := (17 : Int32)) dX12_rank_49 (by decide) ?_
            refine AW.icmp_gt (tgt := 58) dX12_rank_51 (by decide) (fun hc => ?_) (fun hc => ?_)
            · have hf := (if_pos hc).symm.trans hf
              refine AW.iload_n dX12_rank_58 rfl ?_
              refine AW.bipush (v := (18 : Int32)) dX12_rank_59 (by decide) ?_
              refine AW.icmp_ne (tgt := 69) dX12_rank_61 (by decide) (fun hc => ?_) (fun hc => ?_)
              · have hf := (if_neg hc).symm.trans hf
                refine AW.bipush (v := (7 : Int32)) dX12_rank_69 (by decide) ?_
                obtain rfl := Option.some.inj hf
                exact AW.iret (st := []) dX12_rank_71 rfl hK
              · have hf := (if_pos hc).symm.trans hf
                refine AW.bipush (v := (6 : Int32)) dX12_rank_64 (by decide) ?_
                refine AW.goto (tgt := 71) dX12_rank_66 (by decide) ?_
                obtain rfl := Option.some.inj hf
                exact AW.iret (st := []) dX12_rank_71 rfl hK
            · have hf := (if_neg hc).symm.trans hf
              refine AW.iconst (v := (5 : Int32)) dX12_rank_54 (by decide) ?_
              refine AW.goto (tgt := 71) dX12_rank_55 (by decide) ?_
              obtain rfl := Option.some.inj hf
              exact AW.iret (st := []) dX12_rank_71 rfl hK
          · have hf := (if_neg hc).symm.trans hf
            refine AW.iconst (v := (4 : Int32)) dX12_rank_44 (by decide) ?_
            refine AW.goto (tgt := 71) dX12_rank_45 (by decide) ?_
            obtain rfl := Option.some.inj hf
            exact AW.iret (st := []) dX12_rank_71 rfl hK
        · have hf := (if_pos hc).symm.trans hf
          refine AW.iconst (v := (3 : Int32)) dX12_rank_34 (by decide) ?_
          refine AW.goto (tgt := 71) dX12_rank_35 (by decide) ?_
          obtain rfl := Option.some.inj hf
          exact AW.iret (st := []) dX12_rank_71 rfl hK
      · have hf := (if_pos hc).symm.trans hf
        refine AW.iconst (v := (2 : Int32)) dX12_rank_24 (by decide) ?_
        refine AW.goto (tgt := 71) dX12_rank_25 (by decide) ?_
        obtain rfl := Option.some.inj hf
        exact AW.iret (st := []) dX12_rank_71 rfl hK
    · have hf := (if_pos hc).symm.trans hf
      refine AW.iconst (v := (1 : Int32)) dX12_rank_14 (by decide) ?_
      refine AW.goto (tgt := 71) dX12_rank_15 (by decide) ?_
      obtain rfl := Option.some.inj hf
      exact AW.iret (st := []) dX12_rank_71 rfl hK
  · have hf := (if_pos hc).symm.trans hf
    refine AW.iconst (v := (0 : Int32)) dX12_rank_4 (by decide) ?_
    refine AW.goto (tgt := 71) dX12_rank_5 (by decide) ?_
    obtain rfl := Option.some.inj hf
    exact AW.iret (st := []) dX12_rank_71 rfl hK
