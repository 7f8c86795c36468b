/-! ===== methods 13.class 4 ===== -/
def f_J7_fill_d0a16_6 (N : Nat) (I : Nat → Nat → Int32) (ρ : Rh) (a3 : Nat) (p2 : Int64) (c5 : Int32) : Nat → (Nat → Nat → Int64) → Int32 → Option ((Nat → Nat → Int64))
  | 0, _, _ => none
  | n + 1, J2, i4 => (if (c5 ≤ i4) then some J2 else (if ρ.2.1 a3 = (2, (ρ.2.1 a3).2) then (if ¬ (i4 < 0 ∨ (ρ.2.1 a3).2 ≤ tn i4) then f_J7_fill_d0a16_6 N I ρ a3 p2 c5 n (u2 J2 a3 (tn i4) p2) (i4 + (1 : Int32)) else none) else none))
theorem l_J7_fill_d0a16_6 {G : Gd} {d N : Nat} {K : Ah → Option Value → Prop} {I : Nat → Nat → Int32} {ρ : Rh} {a3 : Nat} {p2 : Int64} {c5 : Int32} (hs : Sh ρ) {o : (Nat → Nat → Int64)} : ∀ (n : Nat) (J2 : Nat → Nat → Int64) (i4 : Int32), f_J7_fill_d0a16_6 N I ρ a3 p2 c5 n J2 i4 = some o → AW G mJ7_fill_d0a16 d 0 0 K 22 [none, none, none, none, none] [] (I, o, ρ) → AW G mJ7_fill_d0a16 d 0 0 K 6 [some (.ref a3), some (.long p2), none, some (.int i4), some (.int c5)] [] (I, J2, ρ) := by
  intro n
  induction n with
  | zero => intro J2 i4 hf hE; rw [f_J7_fill_d0a16_6.eq_1] at hf; cases hf
  | succ n ih =>
    intro J2 i4 hf hE
    rw [f_J7_fill_d0a16_6.eq_2] at hf
    refine AW.iload_n dJ7_fill_d0a16_6 rfl ?_
    refine AW.iload dJ7_fill_d0a16_7 rfl ?_
    refine AW.icmp_ge (tgt := 22) dJ7_fill_d0a16_9 (by decide) (fun hc => ?_) (fun hc => ?_)
    · have hf := (if_pos hc).symm.trans hf
      obtain rfl := Option.some.inj hf
      exact AW.weak _ (by exact trivial) hE
    · have hf := (if_neg hc).symm.trans hf
      refine AW.aload_n dJ7_fill_d0a16_12 rfl ?_
      refine AW.iload_n dJ7_fill_d0a16_13 rfl ?_
      refine AW.lload_n dJ7_fill_d0a16_14 rfl ?_
      obtain ⟨h6, hf⟩ := gd_split hf
      obtain ⟨h7, hf⟩ := gd_split hf
      refine TW.last h6 h7 dJ7_fill_d0a16_15 ?_
      show AW G mJ7_fill_d0a16 d 0 0 K 16 [some (.ref a3), some (.long p2), none, some (.int i4), some (.int c5)] [] (I, (u2 J2 a3 (tn i4) p2), ρ)
      refine AW.iinc (v := (i4 + (1 : Int32))) (ls' := [some (.ref a3), some (.long p2), none, some (.int (i4 + (1 : Int32))), some (.int c5)]) dJ7_fill_d0a16_16 rfl rfl (Nat.le_of_ble_eq_true rfl) rfl ?_
      refine AW.goto (tgt := 6) dJ7_fill_d0a16_19 (by decide) ?_
      exact AW.weak _ (by exact (And.intro rfl (And.intro rfl (And.intro rfl (And.intro rfl trivial))))) (ih (u2 J2 a3 (tn i4) p2) (i4 + (1 : Int32)) hf hE)
def f_J7_fill_d0a16 (N : Nat) (ρ : Rh) (I : Nat → Nat → Int32) (J : Nat → Nat → Int64) (p1 : Nat) (p2 : Int64) : Option ((Nat → Nat → Int64)) := (if ρ.2.1 p1 = (2, (ρ.2.1 p1).2) then ((f_J7_fill_d0a16_6 N I ρ p1 p2 (Int32.ofNat (ρ.2.1 p1).2) N J (0 : Int32)).bind fun j8 => some j8) else none)
theorem c_J7_fill_d0a16 {G : Gd} {d N : Nat} {K : Ah → Option Value → Prop} {ρ : Rh} {I : Nat → Nat → Int32} {J : Nat → Nat → Int64} {p1 : Nat} {p2 : Int64} {o : (Nat → Nat → Int64)} (hs : Sh ρ) (hf : f_J7_fill_d0a16 N ρ I J p1 p2 = some o) (hK : K (I, o, ρ) none) : AM G d 0 0 mJ7_fill_d0a16 [.ref p1, .long p2] (I, J, ρ) K := by
  unfold f_J7_fill_d0a16 at hf
  refine AM.intro okJ7_fill_d0a16.2.2.2.1 (Nat.le_of_ble_eq_true rfl) [some (.ref p1), some (.long p2), none, none, none] rfl ?_
  refine AW.iconst (v := (0 : Int32)) dJ7_fill_d0a16_0 (by decide) ?_
  refine AW.istore_n (ls' := [some (.ref p1), some (.long p2), none, some (.int (0 : Int32)), none]) dJ7_fill_d0a16_1 (Nat.le_of_ble_eq_true rfl) rfl ?_
  refine AW.aload_n dJ7_fill_d0a16_2 rfl ?_
  obtain ⟨h1, hf⟩ := gd_split hf
  refine TW.alen h1 (by decide) (by decide) rfl dJ7_fill_d0a16_3 ?_
  refine AW.istore (ls' := [some (.ref p1), some (.long p2), none, some (.int (0 : Int32)), some (.int (Int32.ofNat (ρ.2.1 p1).2))]) dJ7_fill_d0a16_4 (Nat.le_of_ble_eq_true rfl) rfl ?_
  obtain ⟨j8, gj8, hf⟩ := ob_split hf
  refine AW.weak _ (by exact (And.intro rfl (And.intro rfl (And.intro rfl (And.intro rfl trivial))))) (l_J7_fill_d0a16_6 hs N J (0 : Int32) gj8 ?_)
  show AW G mJ7_fill_d0a16 d 0 0 K 22 [none, none, none, none, none] [] (I, j8, ρ)
  obtain rfl := Option.some.inj hf
  exact AW.vret (st := []) dJ7_fill_d0a16_22 rfl hK
def f_X10_addToLiving_3 (N : Nat) (I : Nat → Nat → Int32) (ρ : Rh) (p1 : Int32) (p2 : Int64) : Nat → (Nat → Nat → Int64) → Int32 → Option ((Nat → Nat → Int64))
  | 0, _, _ => none
  | n + 1, J1, i2 => (if ((I 42 0) ≤ i2) then some J1 else (if ¬ (p1 < 0 ∨ 13 ≤ tn p1) then (if ¬ (i2 < 0 ∨ 8 ≤ tn i2) then (((if ((I (50 + (tn p1)) (tn i2)) ≤ (0 : Int32)) then some J1 else (if ¬ (i2 < 0 ∨ 8 ≤ tn i2) then (if ¬ (i2 < 0 ∨ 8 ≤ tn i2) then some (u2 J1 78 (tn i2) ((J1 78 (tn i2)) + p2)) else none) else none)) : Option ((Nat → Nat → Int64))).bind fun j8 => f_X10_addToLiving_3 N I ρ p1 p2 n j8 (i2 + (1 : Int32))) else none) else none))
theorem l_X10_addToLiving_3 {G : Gd} {d N : Nat} {K : Ah → Option Value → Prop} {I : Nat → Nat → Int32} {ρ : Rh} {p1 : Int32} {p2 : Int64} (hs : Sh ρ) {o : (Nat → Nat → Int64)} : ∀ (n : Nat) (J1 : Nat → Nat → Int64) (i2 : Int32), f_X10_addToLiving_3 N I ρ p1 p2 n J1 i2 = some o → AW G mX10_addToLiving d 0 0 K 44 [none, none, none, none, none] [] (I, o, ρ) → AW G mX10_addToLiving d 0 0 K 3 [some (.ref 48), some (.int p1), some (.long p2), none, some (.int i2)] [] (I, J1, ρ) := by
  intro n
  induction n with
  | zero => intro J1 i2 hf hE; rw [f_X10_addToLiving_3.eq_1] at hf; cases hf
  | succ n ih =>
    intro J1 i2 hf hE
    rw [f_X10_addToLiving_3.eq_2] at hf
    refine AW.iload dX10_addToLiving_3 rfl ?_
    refine AW.aload_n dX10_addToLiving_5 rfl ?_
    refine TW.getR fX10_36_10 hs.k48 (rf_some hs.r48_0) dX10_addToLiving_6 ?_
    refine TW.getI (x := (I 42 0)) fX10_111_0 hs.k42 rfl dX10_addToLiving_9 ?_
    refine AW.icmp_ge (tgt := 44) dX10_addToLiving_12 (by decide) (fun hc => ?_) (fun hc => ?_)
    · have hf := (if_pos hc).symm.trans hf
      obtain rfl := Option.some.inj hf
      exact AW.weak _ (by exact trivial) hE
    · have hf := (if_neg hc).symm.trans hf
      refine AW.aload_n dX10_addToLiving_15 rfl ?_
      refine TW.getR fX10_11_10 hs.k48 (rf_some hs.r48_1) dX10_addToLiving_16 ?_
      refine AW.iload_n dX10_addToLiving_19 rfl ?_
      obtain ⟨h3, hf⟩ := gd_split hf
      have hl4 : (tn p1) < 13 := vp_lt h3
      refine TW.aald (t := 3) hs.k49 (by decide) h3 (rf_some (hs.e49 hl4)) dX10_addToLiving_20 ?_
      refine AW.iload dX10_addToLiving_21 rfl ?_
      obtain ⟨h5, hf⟩ := gd_split hf
      refine TW.iald (x := (I (50 + (tn p1)) (tn i2))) (hs.ek49 hl4) h5 rfl dX10_addToLiving_23 ?_
      obtain ⟨j8, gj8, hf⟩ := ob_split hf
      have Kj8 : AW G mX10_addToLiving d 0 0 K 38 [some (.ref 48), some (.int p1), some (.long p2), none, some (.int i2)] [] (I, j8, ρ) := by
        refine AW.iinc (v := (i2 + (1 : Int32))) (ls' := [some (.ref 48), some (.int p1), some (.long p2), none, some (.int (i2 + (1 : Int32)))]) dX10_addToLiving_38 rfl rfl (Nat.le_of_ble_eq_true rfl) rfl ?_
        refine AW.goto (tgt := 3) dX10_addToLiving_41 (by decide) ?_
        exact AW.weak _ (by exact (And.intro rfl (And.intro rfl (And.intro rfl (And.intro rfl trivial))))) (ih j8 (i2 + (1 : Int32)) hf hE)
      clear hf; have hf := gj8; clear gj8
      refine AW.if_le (tgt := 38) dX10_addToLiving_24 (by decide) (fun hc => ?_) (fun hc => ?_)
      · have hf := (if_pos hc).symm.trans hf
        obtain rfl := Option.some.inj hf
        exact AW.weak _ (by exact (And.intro rfl (And.intro rfl (And.intro rfl (And.intro rfl trivial))))) Kj8
      · have hf := (if_neg hc).symm.trans hf
        refine AW.aload_n dX10_addToLiving_27 rfl ?_
        refine TW.getR fX10_26_10 hs.k48 (rf_some hs.r48_5) dX10_addToLiving_28 ?_
        refine AW.iload dX10_addToLiving_31 rfl ?_
        refine AW.dup2 dX10_addToLiving_33 rfl rfl ?_
        obtain ⟨h6, hf⟩ := gd_split hf
        refine TW.lald (x := (J1 78 (tn i2))) hs.k78 h6 rfl dX10_addToLiving_34 ?_
        refine AW.lload_n dX10_addToLiving_35 rfl ?_
        refine AW.ladd dX10_addToLiving_36 ?_
        obtain ⟨h7, hf⟩ := gd_split hf
        refine TW.last hs.k78 h7 dX10_addToLiving_37 ?_
        show AW G mX10_addToLiving d 0 0 K 38 [some (.ref 48), some (.int p1), some (.long p2), none, some (.int i2)] [] (I, (u2 J1 78 (tn i2) ((J1 78 (tn i2)) + p2)), ρ)
        obtain rfl := Option.some.inj hf
        exact AW.weak _ (by exact (And.intro rfl (And.intro rfl (And.intro rfl (And.intro rfl trivial))))) Kj8
def f_X10_addToLiving (N : Nat) (ρ : Rh) (I : Nat → Nat → Int32) (J : Nat → Nat → Int64) (p1 : Int32) (p2 : Int64) : Option ((Nat → Nat → Int64)) := ((f_X10_addToLiving_3 N I ρ p1 p2 N J (0 : Int32)).bind fun j9 => some j9)
theorem c_X10_addToLiving {G : Gd} {d N : Nat} {K : Ah → Option Value → Prop} {ρ : Rh} {I : Nat → Nat → Int32} {J : Nat → Nat → Int64} {p1 : Int32} {p2 : Int64} {o : (Nat → Nat → Int64)} (hs : Sh ρ) (hf : f_X10_addToLiving N ρ I J p1 p2 = some o) (hK : K (I, o, ρ) none) : AM G d 0 0 mX10_addToLiving [.ref 48, .int p1, .long p2] (I, J, ρ) K := by
  unfold f_X10_addToLiving at hf
  refine AM.intro okX10_addToLiving.2.2.2.1 (Nat.le_of_ble_eq_true rfl) [some (.ref 48), some (.int p1), some (.long p2), none, none] rfl ?_
  refine AW.iconst (v := (0 : Int32)) dX10_addToLiving_0 (by decide) ?_
  refine AW.istore (ls' := [some (.ref 48), some (.int p1), some (.long p2), none, some (.int (0 : Int32))]) dX10_addToLiving_1 (Nat.le_of_ble_eq_true rfl) rfl ?_
  obtain ⟨j9, gj9, hf⟩ := ob_split hf
  refine AW.weak _ (by exact (And.intro rfl (And.intro rfl (And.intro rfl (And.intro rfl trivial))))) (l_X10_addToLiving_3 hs N J (0 : Int32) gj9 ?_)
  show AW G mX10_addToLiving d 0 0 K 44 [none, none, none, none, none] [] (I, j9, ρ)
  obtain rfl := Option.some.inj hf
  exact AW.vret (st := []) dX10_addToLiving_44 rfl hK
def f_X10_shipDays (N : Nat) (ρ : Rh) (I : Nat → Nat → Int32) (J : Nat → Nat → Int64) : Option (Int32) := (if ((I 48 16) = (-1 : Int32)) then some (I 45 0) else some ((I 48 16) + (1 : Int32)))
theorem c_X10_shipDays {G : Gd} {d N : Nat} {K : Ah → Option Value → Prop} {ρ : Rh} {I : Nat → Nat → Int32} {J : Nat → Nat → Int64} {o : Int32} (hs : Sh ρ) (hf : f_X10_shipDays N ρ I J = some o) (hK : K (I, J, ρ) (some (.int o))) : AM G d 0 0 mX10_shipDays [.ref 48] (I, J, ρ) K := by
  unfold f_X10_shipDays at hf
  refine AM.intro okX10_shipDays.2.2.2.1 (Nat.le_of_ble_eq_true rfl) [some (.ref 48)] rfl ?_
  refine AW.aload_n dX10_shipDays_0 rfl ?_
  refine TW.getI (x := (I 48 16)) fX10_66_10 hs.k48 rfl dX10_shipDays_1 ?_
  refine AW.iconst (v := (-1 : Int32)) dX10_shipDays_4 (by decide) ?_
  refine AW.icmp_ne (tgt := 20) dX10_shipDays_5 (by decide) (fun hc => ?_) (fun hc => ?_)
  · have hf := (if_neg hc).symm.trans hf
    refine AW.aload_n dX10_shipDays_20 rfl ?_
    refine TW.getI (x := (I 48 16)) fX10_66_10 hs.k48 rfl dX10_shipDays_21 ?_
    refine AW.iconst (v := (1 : Int32)) dX10_shipDays_24 (by decide) ?_
    refine AW.iadd dX10_shipDays_25 ?_
    obtain rfl := Option.some.inj hf
    exact AW.iret (st := []) dX10_shipDays_26 rfl hK
  · have hf := (if_pos hc).symm.trans hf
    refine AW.aload_n dX10_shipDays_8 rfl ?_
    refine TW.getR fX10_36_10 hs.k48 (rf_some hs.r48_0) dX10_shipDays_9 ?_
    refine TW.getR fX10_40_0 hs.k42 (rf_some hs.r42_3) dX10_shipDays_12 ?_
    refine AW.iconst (v := (0 : Int32)) dX10_shipDays_15 (by decide) ?_
    refine TW.iald (x := (I 45 0)) hs.k45 (show ¬ ((0 : Int32) < 0 ∨ 4 ≤ (0 : Int32).toNatClampNeg) by decide) rfl dX10_shipDays_16 ?_
    refine AW.goto (tgt := 26) dX10_shipDays_17 (by decide) ?_
    obtain rfl := Option.some.inj hf
    exact AW.iret (st := []) dX10_shipDays_26 rfl hK
def f_X10_sumHomes_14 (N : Nat) (I : Nat → Nat → Int32) (ρ : Rh) : Nat → (Nat → Nat → Int64) → Int64 → Int32 → Option ((Nat → Nat → Int64) × Int64)
  | 0, _, _, _ => none
  | n + 1, J2, q3, i4 => (Option.bind (f_X10_shipDays N ρ I J2) fun v5 => (if (v5 ≤ i4) then some (J2, q3) else (if ¬ (i4 < 0 ∨ 12 ≤ tn i4) then (bnd ((q3 / (10 : Int64)) * ((I 46 (tn i4)).toInt64)) fun y7 => (Option.bind (f_X10_addToLiving N ρ I J2 i4 y7) fun v8 => f_X10_sumHomes_14 N I ρ n v8 (q3 - y7) (i4 + (1 : Int32)))) else none)))
theorem l_X10_sumHomes_14 {G : Gd} {d N : Nat} {K : Ah → Option Value → Prop} {I : Nat → Nat → Int32} {ρ : Rh} (hs : Sh ρ) {o : (Nat → Nat → Int64) × Int64} : ∀ (n : Nat) (J2 : Nat → Nat → Int64) (q3 : Int64) (i4 : Int32), f_X10_sumHomes_14 N I ρ n J2 q3 i4 = some o → AW G mX10_sumHomes (d + 1) 0 0 K 58 [some (.ref 48), some (.long o.2), none, none, none, none] [] (I, o.1, ρ) → AW G mX10_sumHomes (d + 1) 0 0 K 14 [some (.ref 48), some (.long q3), none, some (.int i4), none, none] [] (I, J2, ρ) := by
  intro n
  induction n with
  | zero => intro J2 q3 i4 hf hE; rw [f_X10_sumHomes_14.eq_1] at hf; cases hf
  | succ n ih =>
    intro J2 q3 i4 hf hE
    rw [f_X10_sumHomes_14.eq_2] at hf
    refine AW.iload_n dX10_sumHomes_14 rfl ?_
    refine AW.aload_n dX10_sumHomes_15 rfl ?_
    obtain ⟨v5, gv5, hf⟩ := ob_split hf
    refine TW.invv (as := []) (rest := [.int i4]) viX10_167_10 hs.k48 dX10_sumHomes_16 rfl rfl (Nat.le_of_ble_eq_true rfl) (c_X10_shipDays hs gv5 ?_)
    show AW G mX10_sumHomes (d + 1) 0 0 K 19 [some (.ref 48), some (.long q3), none, some (.int i4), none, none] [.int v5, .int i4] (I, J2, ρ)
    refine AW.icmp_ge (tgt := 58) dX10_sumHomes_19 (by decide) (fun hc => ?_) (fun hc => ?_)
    · have hf := (if_pos hc).symm.trans hf
      obtain rfl := Option.some.inj hf
      exact AW.weak _ (by exact (And.intro rfl (And.intro rfl trivial))) hE
    · have hf := (if_neg hc).symm.trans hf
      refine AW.lload_n dX10_sumHomes_22 rfl ?_
      refine AW.ldc2 dX10_sumHomes_23 kcX10_171 ?_
      refine AW.ldiv (hne := (by decide)) dX10_sumHomes_26 ?_
      refine AW.aload_n dX10_sumHomes_27 rfl ?_
      refine TW.getR fX10_36_10 hs.k48 (rf_some hs.r48_0) dX10_sumHomes_28 ?_
      refine TW.getR fX10_173_0 hs.k42 (rf_some hs.r42_4) dX10_sumHomes_31 ?_
      refine AW.iload_n dX10_sumHomes_34 rfl ?_
      obtain ⟨h6, hf⟩ := gd_split hf
      refine TW.iald (x := (I 46 (tn i4))) hs.k46 h6 rfl dX10_sumHomes_35 ?_
      refine AW.i2l dX10_sumHomes_36 ?_
      refine AW.lmul dX10_sumHomes_37 ?_
      obtain ⟨y7, gy7, hf⟩ := bnd_one hf
      refine AW.nmJ gy7 ?_
      refine AW.lstore (ls' := [some (.ref 48), some (.long q3), none, some (.int i4), some (.long y7), none]) dX10_sumHomes_38 (Nat.le_of_ble_eq_true rfl) rfl ?_
      refine AW.aload_n dX10_sumHomes_40 rfl ?_
      refine AW.iload_n dX10_sumHomes_41 rfl ?_
      refine AW.lload dX10_sumHomes_42 rfl ?_
      obtain ⟨v8, gv8, hf⟩ := ob_split hf
      refine TW.invv (as := [.int i4, .long y7]) (rest := []) viX10_176_10 hs.k48 dX10_sumHomes_44 rfl rfl (Nat.le_of_ble_eq_true rfl) (c_X10_addToLiving hs gv8 ?_)
      show AW G mX10_sumHomes (d + 1) 0 0 K 47 [some (.ref 48), some (.long q3), none, some (.int i4), some (.long y7), none] [] (I, v8, ρ)
      refine AW.lload_n dX10_sumHomes_47 rfl ?_
      refine AW.lload dX10_sumHomes_48 rfl ?_
      refine AW.lsub dX10_sumHomes_50 ?_
      refine AW.lstore_n (ls' := [some (.ref 48), some (.long (q3 - y7)), none, some (.int i4), some (.long y7), none]) dX10_sumHomes_51 (Nat.le_of_ble_eq_true rfl) rfl ?_
      refine AW.iinc (v := (i4 + (1 : Int32))) (ls' := [some (.ref 48), some (.long (q3 - y7)), none, some (.int (i4 + (1 : Int32))), some (.long y7), none]) dX10_sumHomes_52 rfl rfl (Nat.le_of_ble_eq_true rfl) rfl ?_
      refine AW.goto (tgt := 14) dX10_sumHomes_55 (by decide) ?_
      exact AW.weak _ (by exact (And.intro rfl (And.intro rfl (And.intro rfl trivial)))) (ih v8 (q3 - y7) (i4 + (1 : Int32)) hf hE)
def f_X10_sumHomes (N : Nat) (ρ : Rh) (I : Nat → Nat → Int32) (J : Nat → Nat → Int64) : Option ((Nat → Nat → Int64)) := (Option.bind (f_J7_fill_d0a16 N ρ I J 78 (0 : Int64)) fun v1 => ((f_X10_sumHomes_14 N I ρ N v1 (1000000000000 : Int64) (0 : Int32)).bind fun j9 => (if ((I 48 16) = (-1 : Int32)) then some j9.1 else (Option.bind (f_X10_addToLiving N ρ I j9.1 ((I 48 16) + (1 : Int32)) j9.2) fun v10 => some v10))))
theorem c_X10_sumHomes {G : Gd} {d N : Nat} {K : Ah → Option Value → Prop} {ρ : Rh} {I : Nat → Nat → Int32} {J : Nat → Nat → Int64} {o : (Nat → Nat → Int64)} (hs : Sh ρ) (hf : f_X10_sumHomes N ρ I J = some o) (hK : K (I, o, ρ) none) : AM G (d + 1) 0 0 mX10_sumHomes [.ref 48] (I, J, ρ) K := by
  unfold f_X10_sumHomes at hf
  refine AM.intro okX10_sumHomes.2.2.2.1 (Nat.le_of_ble_eq_true rfl) [some (.ref 48), none, none, none, none, none] rfl ?_
  refine AW.aload_n dX10_sumHomes_0 rfl ?_
  refine TW.getR fX10_26_10 hs.k48 (rf_some hs.r48_5) dX10_sumHomes_1 ?_
  refine AW.lconst (v := (0 : Int64)) dX10_sumHomes_4 (by decide) ?_
  obtain ⟨v1, gv1, hf⟩ := ob_split hf
  refine TW.invs (as := [.ref 78, .long (0 : Int64)]) (rest := []) stX10_162 dX10_sumHomes_5 rfl rfl (Nat.le_of_ble_eq_true rfl) (c_J7_fill_d0a16 hs gv1 ?_)
  show AW G mX10_sumHomes (d + 1) 0 0 K 8 [some (.ref 48), none, none, none, none, none] [] (I, v1, ρ)
  refine AW.ldc2 dX10_sumHomes_8 kcX10_165 ?_
  refine AW.lstore_n (ls' := [some (.ref 48), some (.long (1000000000000 : Int64)), none, none, none, none]) dX10_sumHomes_11 (Nat.le_of_ble_eq_true rfl) rfl ?_
  refine AW.iconst (v := (0 : Int32)) dX10_sumHomes_12 (by decide) ?_
  refine AW.istore_n (ls' := [some (.ref 48), some (.long (1000000000000 : Int64)), none, some (.int (0 : Int32)), none, none]) dX10_sumHomes_13 (Nat.le_of_ble_eq_true rfl) rfl ?_
  obtain ⟨j9, gj9, hf⟩ := ob_split hf
  refine AW.weak _ (by exact (And.intro rfl (And.intro rfl (And.intro rfl trivial)))) (l_X10_sumHomes_14 hs N v1 (1000000000000 : Int64) (0 : Int32) gj9 ?_)
  show AW G mX10_sumHomes (d + 1) 0 0 K 58 [some (.ref 48), some (.long j9.2), none, none, none, none] [] (I, j9.1, ρ)
  refine AW.aload_n dX10_sumHomes_58 rfl ?_
  refine TW.getI (x := (I 48 16)) fX10_66_10 hs.k48 rfl dX10_sumHomes_59 ?_
  refine AW.iconst (v := (-1 : Int32)) dX10_sumHomes_62 (by decide) ?_
  refine AW.icmp_eq (tgt := 77) dX10_sumHomes_63 (by decide) (fun hc => ?_) (fun hc => ?_)
  · have hf := (if_pos hc).symm.trans hf
    obtain rfl := Option.some.inj hf
    exact AW.vret (st := []) dX10_sumHomes_77 rfl hK
  · have hf := (if_neg hc).symm.trans hf
    refine AW.aload_n dX10_sumHomes_66 rfl ?_
    refine AW.aload_n dX10_sumHomes_67 rfl ?_
    refine TW.getI (x := (I 48 16)) fX10_66_10 hs.k48 rfl dX10_sumHomes_68 ?_
    refine AW.iconst (v := (1 : Int32)) dX10_sumHomes_71 (by decide) ?_
    refine AW.iadd dX10_sumHomes_72 ?_
    refine AW.lload_n dX10_sumHomes_73 rfl ?_
    obtain ⟨v10, gv10, hf⟩ := ob_split hf
    refine TW.invv (as := [.int ((I 48 16) + (1 : Int32)), .long j9.2]) (rest := []) viX10_176_10 hs.k48 dX10_sumHomes_74 rfl rfl (Nat.le_of_ble_eq_true rfl) (c_X10_addToLiving hs gv10 ?_)
    show AW G mX10_sumHomes (d + 1) 0 0 K 77 [some (.ref 48), some (.long j9.2), none, none, none, none] [] (I, v10, ρ)
    obtain rfl := Option.some.inj hf
    exact AW.vret (st := []) dX10_sumHomes_77 rfl hK
def f_X10_sailAs_77 (N : Nat) (J : Nat → Nat → Int64) (ρ : Rh) : Nat → (Nat → Nat → Int32) → Int32 → Option ((Nat → Nat → Int32))
  | 0, _, _ => none
  | n + 1, I2, i3 => (if ((12 : Int32) ≤ i3) then some I2 else (if ((I2 45 0) ≤ i3) then some I2 else (Option.bind (f_X10_carryOver N ρ (u2 I2 48 13 i3) J) fun v4 => (((if ((v4 48 16) = (-1 : Int32)) then (Option.bind (f_X10_living N ρ v4 J i3) fun v5 => (if (v5 ≤ (0 : Int32)) then some v4 else (if ¬ (i3 < 0 ∨ 13 ≤ tn i3) then (if ¬ (i3 < 0 ∨ 12 ≤ tn i3) then (bnd (if ((v4 76 (tn i3)) + (v4 47 (tn i3))) < (9999 : Int32) then ((v4 76 (tn i3)) + (v4 47 (tn i3))) else (9999 : Int32)) fun x8 => (if ¬ ((i3 + (1 : Int32)) < 0 ∨ 13 ≤ tn (i3 + (1 : Int32))) then (Option.bind (f_X10_drink N ρ (u2 v4 76 (tn (i3 + (1 : Int32))) x8) J) fun v10 => (Option.bind (f_X10_rowAndLive N ρ v10 J) fun v11 => (if ¬ ((i3 + (1 : Int32)) < 0 ∨ 13 ≤ tn (i3 + (1 : Int32))) then (if ((v11 77 (tn (i3 + (1 : Int32)))) < (v11 45 3)) then some v11 else (Option.bind (f_X10_living N ρ v11 J (i3 + (1 : Int32))) fun v13 => (if (v13 ≤ (0 : Int32)) then some v11 else some (u2 v11 48 16 i3)))) else none))) else none)) else none) else none))) else some v4) : Option ((Nat → Nat → Int32))).bind fun j14 => f_X10_sailAs_77 N J ρ n j14 (i3 + (1 : Int32))))))
theorem l_X10_sailAs_77 {G : Gd} {d N : Nat} {K : Ah → Option Value → Prop} {J : Nat → Nat → Int64} {ρ : Rh} (hs : Sh ρ) {o : (Nat → Nat → Int32)} : ∀ (n : Nat) (I2 : Nat → Nat → Int32) (i3 : Int32), f_X10_sailAs_77 N J ρ n I2 i3 = some o → AW G mX10_sailAs (d + 4) 0 0 K 210 [some (.ref 48), none, none, none, none, none, none] [] (o, J, ρ) → AW G mX10_sailAs (d + 4) 0 0 K 77 [some (.ref 48), none, none, none, none, none, some (.int i3)] [] (I2, J, ρ) := by
  intro n
  induction n with
  | zero => intro I2 i3 hf hE; rw [f_X10_sailAs_77.eq_1] at hf; cases hf
  | succ n ih =>
    intro I2 i3 hf hE
    rw [f_X10_sailAs_77.eq_2] at hf
    refine AW.iload dX10_sailAs_77 rfl ?_
    refine AW.bipush (v := (12 : Int32)) dX10_sailAs_79 (by decide) ?_
    refine AW.icmp_ge (tgt := 210) dX10_sailAs_81 (by decide) (fun hc => ?_) (fun hc => ?_)
    · have hf := (if_pos hc).symm.trans hf
      obtain rfl := Option.some.inj hf
      exact AW.weak _ (by exact (And.intro rfl trivial)) hE
    · have hf := (if_neg hc).symm.trans hf
      refine AW.iload dX10_sailAs_84 rfl ?_
      refine AW.aload_n dX10_sailAs_86 rfl ?_
      refine TW.getR fX10_36_10 hs.k48 (rf_some hs.r48_0) dX10_sailAs_87 ?_
      refine TW.getR fX10_40_0 hs.k42 (rf_some hs.r42_3) dX10_sailAs_90 ?_
      refine AW.iconst (v := (0 : Int32)) dX10_sailAs_93 (by decide) ?_
      refine TW.iald (x := (I2 45 0)) hs.k45 (show ¬ ((0 : Int32) < 0 ∨ 4 ≤ (0 : Int32).toNatClampNeg) by decide) rfl dX10_sailAs_94 ?_
      refine AW.icmp_ge (tgt := 210) dX10_sailAs_95 (by decide) (fun hc => ?_) (fun hc => ?_)
      · have hf := (if_pos hc).symm.trans hf
        obtain rfl := Option.some.inj hf
        exact AW.weak _ (by exact (And.intro rfl trivial)) hE
      · have hf := (if_neg hc).symm.trans hf
        refine AW.aload_n dX10_sailAs_98 rfl ?_
        refine AW.iload dX10_sailAs_99 rfl ?_
        refine TW.putI fX10_77_10 hs.k48 (Or.inl rfl) dX10_sailAs_101 ?_
        show AW G mX10_sailAs (d + 4) 0 0 K 104 [some (.ref 48), none, none, none, none, none, some (.int i3)] [] ((u2 I2 48 13 i3), J, ρ)
        refine AW.aload_n dX10_sailAs_104 rfl ?_
        obtain ⟨v4, gv4, hf⟩ := ob_split hf
        refine TW.invv (as := []) (rest := []) viX10_80_10 hs.k48 dX10_sailAs_105 rfl rfl (Nat.le_of_ble_eq_true rfl) (c_X10_carryOver hs gv4 ?_)
        show AW G mX10_sailAs (d + 4) 0 0 K 108 [some (.ref 48), none, none, none, none, none, some (.int i3)] [] (v4, J, ρ)
        refine AW.aload_n dX10_sailAs_108 rfl ?_
        refine TW.getI (x := (v4 48 16)) fX10_66_10 hs.k48 rfl dX10_sailAs_109 ?_
        refine AW.iconst (v := (-1 : Int32)) dX10_sailAs_112 (by decide) ?_
        obtain ⟨j14, gj14, hf⟩ := ob_split hf
        have Kj14 : AW G mX10_sailAs (d + 4) 0 0 K 204 [some (.ref 48), none, none, none, none, none, some (.int i3)] [] (j14, J, ρ) := by
          refine AW.iinc (v := (i3 + (1 : Int32))) (ls' := [some (.ref 48), none, none, none, none, none, some (.int (i3 + (1 : Int32)))]) dX10_sailAs_204 rfl rfl (Nat.le_of_ble_eq_true rfl) rfl ?_
          refine AW.goto (tgt := 77) dX10_sailAs_207 (by decide) ?_
          exact AW.weak _ (by exact (And.intro rfl (And.intro rfl trivial))) (ih j14 (i3 + (1 : Int32)) hf hE)
        clear hf; have hf := gj14; clear gj14
        refine AW.icmp_ne (tgt := 204) dX10_sailAs_113 (by decide) (fun hc => ?_) (fun hc => ?_)
        · have hf := (if_neg hc).symm.trans hf
          obtain rfl := Option.some.inj hf
          exact AW.weak _ (by exact (And.intro rfl (And.intro rfl trivial))) Kj14
        · have hf := (if_pos hc).symm.trans hf
          refine AW.aload_n dX10_sailAs_116 rfl ?_
          refine AW.iload dX10_sailAs_117 rfl ?_
          obtain ⟨v5, gv5, hf⟩ := ob_split hf
          refine TW.invv (as := [.int i3]) (rest := []) viX10_83_10 hs.k48 dX10_sailAs_119 rfl rfl (Nat.le_of_ble_eq_true rfl) (c_X10_living hs gv5 ?_)
          show AW G mX10_sailAs (d + 4) 0 0 K 122 [some (.ref 48), none, none, none, none, none, some (.int i3)] [.int v5] (v4, J, ρ)
          refine AW.if_le (tgt := 204) dX10_sailAs_122 (by decide) (fun hc => ?_) (fun hc => ?_)
          · have hf := (if_pos hc).symm.trans hf
            obtain rfl := Option.some.inj hf
            exact AW.weak _ (by exact (And.intro rfl (And.intro rfl trivial))) Kj14
          · have hf := (if_neg hc).symm.trans hf
            refine AW.aload_n dX10_sailAs_125 rfl ?_
            refine TW.getR fX10_19_10 hs.k48 (rf_some hs.r48_3) dX10_sailAs_126 ?_
            refine AW.iload dX10_sailAs_129 rfl ?_
            refine AW.iconst (v := (1 : Int32)) dX10_sailAs_131 (by decide) ?_
            refine AW.iadd dX10_sailAs_132 ?_
            refine AW.sipush (v := (9999 : Int32)) dX10_sailAs_133 (by decide) ?_
            refine AW.aload_n dX10_sailAs_136 rfl ?_
            refine TW.getR fX10_19_10 hs.k48 (rf_some hs.r48_3) dX10_sailAs_137 ?_
            refine AW.iload dX10_sailAs_140 rfl ?_
            obtain ⟨h6, hf⟩ := gd_split hf
            refine TW.iald (x := (v4 76 (tn i3))) hs.k76 h6 rfl dX10_sailAs_142 ?_
            refine AW.aload_n dX10_sailAs_143 rfl ?_
            refine TW.getR fX10_36_10 hs.k48 (rf_some hs.r48_0) dX10_sailAs_144 ?_
            refine TW.getR fX10_87_0 hs.k42 (rf_some hs.r42_5) dX10_sailAs_147 ?_
            refine AW.iload dX10_sailAs_150 rfl ?_
            obtain ⟨h7, hf⟩ := gd_split hf
            refine TW.iald (x := (v4 47 (tn i3))) hs.k47 h7 rfl dX10_sailAs_152 ?_
            refine AW.iadd dX10_sailAs_153 ?_
            refine AW.mmin mtX10_90 dX10_sailAs_154 (Nat.le_of_ble_eq_true rfl) ?_
            obtain ⟨x8, gx8, hf⟩ := bnd_one hf
            refine AW.nmI gx8 ?_
            obtain ⟨h9, hf⟩ := gd_split hf
            refine TW.iast hs.k76 h9 dX10_sailAs_157 ?_
            show AW G mX10_sailAs (d + 4) 0 0 K 158 [some (.ref 48), none, none, none, none, none, some (.int i3)] [] ((u2 v4 76 (tn (i3 + (1 : Int32))) x8), J, ρ)
            refine AW.aload_n dX10_sailAs_158 rfl ?_
            obtain ⟨v10, gv10, hf⟩ := ob_split hf
            refine TW.invv (as := []) (rest := []) viX10_96_10 hs.k48 dX10_sailAs_159 rfl rfl (Nat.le_of_ble_eq_true rfl) (c_X10_drink hs gv10 ?_)
            show AW G mX10_sailAs (d + 4) 0 0 K 162 [some (.ref 48), none, none, none, none, none, some (.int i3)] [] (v10, J, ρ)
            refine AW.aload_n dX10_sailAs_162 rfl ?_
            obtain ⟨v11, gv11, hf⟩ := ob_split hf
            refine TW.invv (as := []) (rest := []) viX10_99_10 hs.k48 dX10_sailAs_163 rfl rfl (Nat.le_of_ble_eq_true rfl) (c_X10_rowAndLive hs gv11 ?_)
            show AW G mX10_sailAs (d + 4) 0 0 K 166 [some (.ref 48), none, none, none, none, none, some (.int i3)] [] (v11, J, ρ)
            refine AW.aload_n dX10_sailAs_166 rfl ?_
            refine TW.getR fX10_23_10 hs.k48 (rf_some hs.r48_4) dX10_sailAs_167 ?_
            refine AW.iload dX10_sailAs_170 rfl ?_
            refine AW.iconst (v := (1 : Int32)) dX10_sailAs_172 (by decide) ?_
            refine AW.iadd dX10_sailAs_173 ?_
            obtain ⟨h12, hf⟩ := gd_split hf
            refine TW.iald (x := (v11 77 (tn (i3 + (1 : Int32))))) hs.k77 h12 rfl dX10_sailAs_174 ?_
            refine AW.aload_n dX10_sailAs_175 rfl ?_
            refine TW.getR fX10_36_10 hs.k48 (rf_some hs.r48_0) dX10_sailAs_176 ?_
            refine TW.getR fX10_40_0 hs.k42 (rf_some hs.r42_3) dX10_sailAs_179 ?_
            refine AW.iconst (v := (3 : Int32)) dX10_sailAs_182 (by decide) ?_
            refine TW.iald (x := (v11 45 3)) hs.k45 (show ¬ ((3 : Int32) < 0 ∨ 4 ≤ (3 : Int32).toNatClampNeg) by decide) rfl dX10_sailAs_183 ?_
            refine AW.icmp_lt (tgt := 204) dX10_sailAs_184 (by decide) (fun hc => ?_) (fun hc => ?_)
            · have hf := (if_pos hc).symm.trans hf
              obtain rfl := Option.some.inj hf
              exact AW.weak _ (by exact (And.intro rfl (And.intro rfl trivial))) Kj14
            · have hf := (if_neg hc).symm.trans hf
              refine AW.aload_n dX10_sailAs_187 rfl ?_
              refine AW.iload dX10_sailAs_188 rfl ?_
              refine AW.iconst (v := (1 : Int32)) dX10_sailAs_190 (by decide) ?_
              refine AW.iadd dX10_sailAs_191 ?_
              obtain ⟨v13, gv13, hf⟩ := ob_split hf
              refine TW.invv (as := [.int (i3 + (1 : Int32))]) (rest := []) viX10_83_10 hs.k48 dX10_sailAs_192 rfl rfl (Nat.le_of_ble_eq_true rfl) (c_X10_living hs gv13 ?_)
              show AW G mX10_sailAs (d + 4) 0 0 K 195 [some (.ref 48), none, none, none, none, none, some (.int i3)] [.int v13] (v11, J, ρ)
              refine AW.if_le (tgt := 204) dX10_sailAs_195 (by decide) (fun hc => ?_) (fun hc => ?_)
              · have hf := (if_pos hc).symm.trans hf
                obtain rfl := Option.some.inj hf
                exact AW.weak _ (by exact (And.intro rfl (And.intro rfl trivial))) Kj14
              · have hf := (if_neg hc).symm.trans hf
                refine AW.aload_n dX10_sailAs_198 rfl ?_
                refine AW.iload dX10_sailAs_199 rfl ?_
                refine TW.putI fX10_66_10 hs.k48 (Or.inl rfl) dX10_sailAs_201 ?_
                show AW G mX10_sailAs (d + 4) 0 0 K 204 [some (.ref 48), none, none, none, none, none, some (.int i3)] [] ((u2 v11 48 16 i3), J, ρ)
                obtain rfl := Option.some.inj hf
                exact AW.weak _ (by exact (And.intro rfl (And.intro rfl trivial))) Kj14
def f_X10_sailAs (N : Nat) (ρ : Rh) (I : Nat → Nat → Int32) (J : Nat → Nat → Int64) (p1 : Nat) (p2 : Int32) (p3 : Int32) (p4 : Int32) (p5 : Int32) : Option ((Nat → Nat → Int32) × (Nat → Nat → Int64) × (Rh)) := ((f_X10_sailAs_77 N J (u2 ρ.1 48 8 (some p1), ρ.2) N (u2 (u2 (up (u2 (u2 (u2 (u2 (u2 I 48 9 p2) 48 10 p3) 48 11 p4) 48 12 p5) 48 16 (-1 : Int32)) 50 (cpy ((u2 (u2 (u2 (u2 (u2 I 48 9 p2) 48 10 p3) 48 11 p4) 48 12 p5) 48 16 (-1 : Int32)) 43) ((u2 (u2 (u2 (u2 (u2 I 48 9 p2) 48 10 p3) 48 11 p4) 48 12 p5) 48 16 (-1 : Int32)) 50) (tn (0 : Int32)) (tn (0 : Int32)) (tn (8 : Int32)))) 76 0 (I 45 1)) 77 0 (0 : Int32)) (0 : Int32)).bind fun j15 => (Option.bind (f_X10_sumHomes N (u2 ρ.1 48 8 (some p1), ρ.2) j15 J) fun v16 => some (j15, v16, (u2 ρ.1 48 8 (some p1), ρ.2))))
theorem c_X10_sailAs {G : Gd} {d N : Nat} {K : Ah → Option Value → Prop} {ρ : Rh} {I : Nat → Nat → Int32} {J : Nat → Nat → Int64} {p1 : Nat} {p2 : Int32} {p3 : Int32} {p4 : Int32} {p5 : Int32} {o : (Nat → Nat → Int32) × (Nat → Nat → Int64) × (Rh)} (hs : Sh ρ) (hf : f_X10_sailAs N ρ I J p1 p2 p3 p4 p5 = some o) (hK : (Sh o.2.2 → K (o.1, o.2.1, o.2.2) none)) : AM G (d + 4) 0 0 mX10_sailAs [.ref 48, .ref p1, .int p2, .int p3, .int p4, .int p5] (I, J, ρ) K := by
  unfold f_X10_sailAs at hf
  refine AM.intro okX10_sailAs.2.2.2.1 (Nat.le_of_ble_eq_true rfl) [some (.ref 48), some (.ref p1), some (.int p2), some (.int p3), some (.int p4), some (.int p5), none] rfl ?_
  refine AW.aload_n dX10_sailAs_0 rfl ?_
  refine AW.aload_n dX10_sailAs_1 rfl ?_
  refine TW.putR (o := (some p1)) fX10_49_10 hs.k48 rfl (Or.inl rfl) dX10_sailAs_2 ?_
  have hs := Sh.put hs 48 8 (some p1) (by decide) (by decide)
  show AW G mX10_sailAs (d + 4) 0 0 K 5 [some (.ref 48), some (.ref p1), some (.int p2), some (.int p3), some (.int p4), some (.int p5), none] [] (I, J, (u2 ρ.1 48 8 (some p1), ρ.2))
  refine AW.aload_n dX10_sailAs_5 rfl ?_
  refine AW.iload_n dX10_sailAs_6 rfl ?_
  refine TW.putI fX10_53_10 hs.k48 (Or.inl rfl) dX10_sailAs_7 ?_
  show AW G mX10_sailAs (d + 4) 0 0 K 10 [some (.ref 48), some (.ref p1), some (.int p2), some (.int p3), some (.int p4), some (.int p5), none] [] ((u2 I 48 9 p2), J, (u2 ρ.1 48 8 (some p1), ρ.2))
  refine AW.aload_n dX10_sailAs_10 rfl ?_
  refine AW.iload_n dX10_sailAs_11 rfl ?_
  refine TW.putI fX10_57_10 hs.k48 (Or.inl rfl) dX10_sailAs_12 ?_
  show AW G mX10_sailAs (d + 4) 0 0 K 15 [some (.ref 48), some (.ref p1), some (.int p2), some (.int p3), some (.int p4), some (.int p5), none] [] ((u2 (u2 I 48 9 p2) 48 10 p3), J, (u2 ρ.1 48 8 (some p1), ρ.2))
  refine AW.aload_n dX10_sailAs_15 rfl ?_
  refine AW.iload dX10_sailAs_16 rfl ?_
  refine TW.putI fX10_60_10 hs.k48 (Or.inl rfl) dX10_sailAs_18 ?_
  show AW G mX10_sailAs (d + 4) 0 0 K 21 [some (.ref 48), some (.ref p1), some (.int p2), some (.int p3), some (.int p4), some (.int p5), none] [] ((u2 (u2 (u2 I 48 9 p2) 48 10 p3) 48 11 p4), J, (u2 ρ.1 48 8 (some p1), ρ.2))
  refine AW.aload_n dX10_sailAs_21 rfl ?_
  refine AW.iload dX10_sailAs_22 rfl ?_
  refine TW.putI fX10_63_10 hs.k48 (Or.inl rfl) dX10_sailAs_24 ?_
  show AW G mX10_sailAs (d + 4) 0 0 K 27 [some (.ref 48), some (.ref p1), some (.int p2), some (.int p3), some (.int p4), some (.int p5), none] [] ((u2 (u2 (u2 (u2 I 48 9 p2) 48 10 p3) 48 11 p4) 48 12 p5), J, (u2 ρ.1 48 8 (some p1), ρ.2))
  refine AW.aload_n dX10_sailAs_27 rfl ?_
  refine AW.iconst (v := (-1 : Int32)) dX10_sailAs_28 (by decide) ?_
  refine TW.putI fX10_66_10 hs.k48 (Or.inl rfl) dX10_sailAs_29 ?_
  show AW G mX10_sailAs (d + 4) 0 0 K 32 [some (.ref 48), some (.ref p1), some (.int p2), some (.int p3), some (.int p4), some (.int p5), none] [] ((u2 (u2 (u2 (u2 (u2 I 48 9 p2) 48 10 p3) 48 11 p4) 48 12 p5) 48 16 (-1 : Int32)), J, (u2 ρ.1 48 8 (some p1), ρ.2))
  refine AW.aload_n dX10_sailAs_32 rfl ?_
  refine TW.getR fX10_36_10 hs.k48 (rf_some hs.r48_0) dX10_sailAs_33 ?_
  refine TW.getR fX10_69_0 hs.k42 (rf_some hs.r42_1) dX10_sailAs_36 ?_
  refine AW.iconst (v := (0 : Int32)) dX10_sailAs_39 (by decide) ?_
  refine AW.aload_n dX10_sailAs_40 rfl ?_
  refine TW.getR fX10_11_10 hs.k48 (rf_some hs.r48_1) dX10_sailAs_41 ?_
  refine AW.iconst (v := (0 : Int32)) dX10_sailAs_44 (by decide) ?_
  have hl1 : 0 < 13 := by decide
  refine TW.aald (t := 3) hs.k49 (by decide) (show ¬ ((0 : Int32) < 0 ∨ 13 ≤ (0 : Int32).toNatClampNeg) by decide) (rf_some (hs.e49 hl1)) dX10_sailAs_45 ?_
  refine AW.iconst (v := (0 : Int32)) dX10_sailAs_46 (by decide) ?_
  refine AW.bipush (v := (8 : Int32)) dX10_sailAs_47 (by decide) ?_
  refine TW.copyI cpX10_71 hs.k43 hs.k50 (by decide) (by decide) (by decide) (by decide) (by decide) (Nat.le_of_ble_eq_true rfl) dX10_sailAs_49 ?_
  show AW G mX10_sailAs (d + 4) 0 0 K 52 [some (.ref 48), some (.ref p1), some (.int p2), some (.int p3), some (.int p4), some (.int p5), none] [] ((up (u2 (u2 (u2 (u2 (u2 I 48 9 p2) 48 10 p3) 48 11 p4) 48 12 p5) 48 16 (-1 : Int32)) 50 (cpy ((u2 (u2 (u2 (u2 (u2 I 48 9 p2) 48 10 p3) 48 11 p4) 48 12 p5) 48 16 (-1 : Int32)) 43) ((u2 (u2 (u2 (u2 (u2 I 48 9 p2) 48 10 p3) 48 11 p4) 48 12 p5) 48 16 (-1 : Int32)) 50) (tn (0 : Int32)) (tn (0 : Int32)) (tn (8 : Int32)))), J, (u2 ρ.1 48 8 (some p1), ρ.2))
  refine AW.aload_n dX10_sailAs_52 rfl ?_
  refine TW.getR fX10_19_10 hs.k48 (rf_some hs.r48_3) dX10_sailAs_53 ?_
  refine AW.iconst (v := (0 : Int32)) dX10_sailAs_56 (by decide) ?_
  refine AW.aload_n dX10_sailAs_57 rfl ?_
  refine TW.getR fX10_36_10 hs.k48 (rf_some hs.r48_0) dX10_sailAs_58 ?_
  refine TW.getR fX10_40_0 hs.k42 (rf_some hs.r42_3) dX10_sailAs_61 ?_
  refine AW.iconst (v := (1 : Int32)) dX10_sailAs_64 (by decide) ?_
  refine TW.iald (x := (I 45 1)) hs.k45 (show ¬ ((1 : Int32) < 0 ∨ 4 ≤ (1 : Int32).toNatClampNeg) by decide) ((upj_ne (by decide)).trans ((u2_ne (by decide)).trans ((u2_ne (by decide)).trans ((u2_ne (by decide)).trans ((u2_ne (by decide)).trans (u2_ne (by decide))))))) dX10_sailAs_65 ?_
  refine TW.iast hs.k76 (show ¬ ((0 : Int32) < 0 ∨ 13 ≤ (0 : Int32).toNatClampNeg) by decide) dX10_sailAs_66 ?_
  show AW G mX10_sailAs (d + 4) 0 0 K 67 [some (.ref 48), some (.ref p1), some (.int p2), some (.int p3), some (.int p4), some (.int p5), none] [] ((u2 (up (u2 (u2 (u2 (u2 (u2 I 48 9 p2) 48 10 p3) 48 11 p4) 48 12 p5) 48 16 (-1 : Int32)) 50 (cpy ((u2 (u2 (u2 (u2 (u2 I 48 9 p2) 48 10 p3) 48 11 p4) 48 12 p5) 48 16 (-1 : Int32)) 43) ((u2 (u2 (u2 (u2 (u2 I 48 9 p2) 48 10 p3) 48 11 p4) 48 12 p5) 48 16 (-1 : Int32)) 50) (tn (0 : Int32)) (tn (0 : Int32)) (tn (8 : Int32)))) 76 0 (I 45 1)), J, (u2 ρ.1 48 8 (some p1), ρ.2))
  refine AW.aload_n dX10_sailAs_67 rfl ?_
  refine TW.getR fX10_23_10 hs.k48 (rf_some hs.r48_4) dX10_sailAs_68 ?_
  refine AW.iconst (v := (0 : Int32)) dX10_sailAs_71 (by decide) ?_
  refine AW.iconst (v := (0 : Int32)) dX10_sailAs_72 (by decide) ?_
  refine TW.iast hs.k77 (show ¬ ((0 : Int32) < 0 ∨ 13 ≤ (0 : Int32).toNatClampNeg) by decide) dX10_sailAs_73 ?_
  show AW G mX10_sailAs (d + 4) 0 0 K 74 [some (.ref 48), some (.ref p1), some (.int p2), some (.int p3), some (.int p4), some (.int p5), none] [] ((u2 (u2 (up (u2 (u2 (u2 (u2 (u2 I 48 9 p2) 48 10 p3) 48 11 p4) 48 12 p5) 48 16 (-1 : Int32)) 50 (cpy ((u2 (u2 (u2 (u2 (u2 I 48 9 p2) 48 10 p3) 48 11 p4) 48 12 p5) 48 16 (-1 : Int32)) 43) ((u2 (u2 (u2 (u2 (u2 I 48 9 p2) 48 10 p3) 48 11 p4) 48 12 p5) 48 16 (-1 : Int32)) 50) (tn (0 : Int32)) (tn (0 : Int32)) (tn (8 : Int32)))) 76 0 (I 45 1)) 77 0 (0 : Int32)), J, (u2 ρ.1 48 8 (some p1), ρ.2))
  refine AW.iconst (v := (0 : Int32)) dX10_sailAs_74 (by decide) ?_
  refine AW.istore (ls' := [some (.ref 48), some (.ref p1), some (.int p2), some (.int p3), some (.int p4), some (.int p5), some (.int (0 : Int32))]) dX10_sailAs_75 (Nat.le_of_ble_eq_true rfl) rfl ?_
  obtain ⟨j15, gj15, hf⟩ := ob_split hf
  refine AW.weak _ (by exact (And.intro rfl (And.intro rfl trivial))) (l_X10_sailAs_77 hs N (u2 (u2 (up (u2 (u2 (u2 (u2 (u2 I 48 9 p2) 48 10 p3) 48 11 p4) 48 12 p5) 48 16 (-1 : Int32)) 50 (cpy ((u2 (u2 (u2 (u2 (u2 I 48 9 p2) 48 10 p3) 48 11 p4) 48 12 p5) 48 16 (-1 : Int32)) 43) ((u2 (u2 (u2 (u2 (u2 I 48 9 p2) 48 10 p3) 48 11 p4) 48 12 p5) 48 16 (-1 : Int32)) 50) (tn (0 : Int32)) (tn (0 : Int32)) (tn (8 : Int32)))) 76 0 (I 45 1)) 77 0 (0 : Int32)) (0 : Int32) gj15 ?_)
  show AW G mX10_sailAs (d + 4) 0 0 K 210 [some (.ref 48), none, none, none, none, none, none] [] (j15, J, (u2 ρ.1 48 8 (some p1), ρ.2))
  refine AW.aload_n dX10_sailAs_210 rfl ?_
  obtain ⟨v16, gv16, hf⟩ := ob_split hf
  refine TW.invv (as := []) (rest := []) viX10_102_10 hs.k48 dX10_sailAs_211 rfl rfl (Nat.le_of_ble_eq_true rfl) (c_X10_sumHomes hs gv16 ?_)
  show AW G mX10_sailAs (d + 4) 0 0 K 214 [some (.ref 48), none, none, none, none, none, none] [] (j15, v16, (u2 ρ.1 48 8 (some p1), ρ.2))
  obtain rfl := Option.some.inj hf
  exact AW.vret (st := []) dX10_sailAs_214 rfl ((show Sh (u2 ρ.1 48 8 (some p1), ρ.2) → _ from hK) hs)
def f_X10_sail (N : Nat) (ρ : Rh) (I : Nat → Nat → Int32) (J : Nat → Nat → Int64) (p1 : Nat) : Option ((Nat → Nat → Int32) × (Nat → Nat → Int64) × (Rh)) := (Option.bind (f_X10_sailAs N ρ I J p1 (I 45 2) (255 : Int32) (-1 : Int32) (0 : Int32)) fun v1 => some (v1.1, v1.2.1, v1.2.2))
theorem c_X10_sail {G : Gd} {d N : Nat} {K : Ah → Option Value → Prop} {ρ : Rh} {I : Nat → Nat → Int32} {J : Nat → Nat → Int64} {p1 : Nat} {o : (Nat → Nat → Int32) × (Nat → Nat → Int64) × (Rh)} (hs : Sh ρ) (hf : f_X10_sail N ρ I J p1 = some o) (hK : (Sh o.2.2 → K (o.1, o.2.1, o.2.2) none)) : AM G (d + 5) 0 0 mX10_sail [.ref 48, .ref p1] (I, J, ρ) K := by
  unfold f_X10_sail at hf
  refine AM.intro okX10_sail.2.2.2.1 (Nat.le_of_ble_eq_true rfl) [some (.ref 48), some (.ref p1)] rfl ?_
  refine AW.aload_n dX10_sail_0 rfl ?_
  refine AW.aload_n dX10_sail_1 rfl ?_
  refine AW.aload_n dX10_sail_2 rfl ?_
  refine TW.getR fX10_36_10 hs.k48 (rf_some hs.r48_0) dX10_sail_3 ?_
  refine TW.getR fX10_40_0 hs.k42 (rf_some hs.r42_3) dX10_sail_6 ?_
  refine AW.iconst (v := (2 : Int32)) dX10_sail_9 (by decide) ?_
  refine TW.iald (x := (I 45 2)) hs.k45 (show ¬ ((2 : Int32) < 0 ∨ 4 ≤ (2 : Int32).toNatClampNeg) by decide) rfl dX10_sail_10 ?_
  refine AW.sipush (v := (255 : Int32)) dX10_sail_11 (by decide) ?_
  refine AW.iconst (v := (-1 : Int32)) dX10_sail_14 (by decide) ?_
  refine AW.iconst (v := (0 : Int32)) dX10_sail_15 (by decide) ?_
  obtain ⟨v1, gv1, hf⟩ := ob_split hf
  refine TW.invv (as := [.ref p1, .int (I 45 2), .int (255 : Int32), .int (-1 : Int32), .int (0 : Int32)]) (rest := []) viX10_45_10 hs.k48 dX10_sail_16 rfl rfl (Nat.le_of_ble_eq_true rfl) (c_X10_sailAs hs gv1 (fun hs => ?_))
  show AW G mX10_sail (d + 5) 0 0 K 19 [some (.ref 48), some (.ref p1)] [] (v1.1, v1.2.1, v1.2.2)
  obtain rfl := Option.some.inj hf
  exact AW.vret (st := []) dX10_sail_19 rfl ((show Sh v1.2.2 → _ from hK) hs)
def f_X10_worth_24 (N : Nat) (I : Nat → Nat → Int32) (J : Nat → Nat → Int64) (ρ : Rh) (p1 : Int32) : Nat → Int64 → Int64 → Int32 → Option (Int64 × Int64)
  | 0, _, _, _ => none
  | n + 1, q2, q3, i4 => (if ((I 42 0) ≤ i4) then some (q2, q3) else (if ¬ (i4 < 0 ∨ 8 ≤ tn i4) then (if ¬ (i4 < 0 ∨ 8 ≤ tn i4) then (bnd (if (J 78 (tn i4)) < q3 then (J 78 (tn i4)) else q3) fun y7 => f_X10_worth_24 N I J ρ p1 n (q2 + (J 78 (tn i4))) y7 (i4 + (1 : Int32))) else none) else none))
theorem l_X10_worth_24 {G : Gd} {d N : Nat} {K : Ah → Option Value → Prop} {I : Nat → Nat → Int32} {J : Nat → Nat → Int64} {ρ : Rh} {p1 : Int32} (hs : Sh ρ) {o : Int64 × Int64} : ∀ (n : Nat) (q2 : Int64) (q3 : Int64) (i4 : Int32), f_X10_worth_24 N I J ρ p1 n q2 q3 i4 = some o → AW G mX10_worth (d + 1) 0 0 K 66 [none, some (.int p1), some (.long o.1), none, some (.long o.2), none, none] [] (I, J, ρ) → AW G mX10_worth (d + 1) 0 0 K 24 [some (.ref 48), some (.int p1), some (.long q2), none, some (.long q3), none, some (.int i4)] [] (I, J, ρ) := by
  intro n
  induction n with
  | zero => intro q2 q3 i4 hf hE; rw [f_X10_worth_24.eq_1] at hf; cases hf
  | succ n ih =>
    intro q2 q3 i4 hf hE
    rw [f_X10_worth_24.eq_2] at hf
    refine AW.iload dX10_worth_24 rfl ?_
    refine AW.aload_n dX10_worth_26 rfl ?_
    refine TW.getR fX10_36_10 hs.k48 (rf_some hs.r48_0) dX10_worth_27 ?_
    refine TW.getI (x := (I 42 0)) fX10_111_0 hs.k42 rfl dX10_worth_30 ?_
    refine AW.icmp_ge (tgt := 66) dX10_worth_33 (by decide) (fun hc => ?_) (fun hc => ?_)
    · have hf := (if_pos hc).symm.trans hf
      obtain rfl := Option.some.inj hf
      exact AW.weak _ (by exact (And.intro rfl (And.intro rfl (And.intro rfl trivial)))) hE
    · have hf := (if_neg hc).symm.trans hf
      refine AW.lload_n dX10_worth_36 rfl ?_
      refine AW.aload_n dX10_worth_37 rfl ?_
      refine TW.getR fX10_26_10 hs.k48 (rf_some hs.r48_5) dX10_worth_38 ?_
      refine AW.iload dX10_worth_41 rfl ?_
      obtain ⟨h5, hf⟩ := gd_split hf
      refine TW.lald (x := (J 78 (tn i4))) hs.k78 h5 rfl dX10_worth_43 ?_
      refine AW.ladd dX10_worth_44 ?_
      refine AW.lstore_n (ls' := [some (.ref 48), some (.int p1), some (.long (q2 + (J 78 (tn i4)))), none, some (.long q3), none, some (.int i4)]) dX10_worth_45 (Nat.le_of_ble_eq_true rfl) rfl ?_
      refine AW.lload dX10_worth_46 rfl ?_
      refine AW.aload_n dX10_worth_48 rfl ?_
      refine TW.getR fX10_26_10 hs.k48 (rf_some hs.r48_5) dX10_worth_49 ?_
      refine AW.iload dX10_worth_52 rfl ?_
      obtain ⟨h6, hf⟩ := gd_split hf
      refine TW.lald (x := (J 78 (tn i4))) hs.k78 h6 rfl dX10_worth_54 ?_
      refine AW.mminL mtX10_180 dX10_worth_55 (Nat.le_of_ble_eq_true rfl) ?_
      obtain ⟨y7, gy7, hf⟩ := bnd_one hf
      refine AW.nmJ gy7 ?_
      refine AW.lstore (ls' := [some (.ref 48), some (.int p1), some (.long (q2 + (J 78 (tn i4)))), none, some (.long y7), none, some (.int i4)]) dX10_worth_58 (Nat.le_of_ble_eq_true rfl) rfl ?_
      refine AW.iinc (v := (i4 + (1 : Int32))) (ls' := [some (.ref 48), some (.int p1), some (.long (q2 + (J 78 (tn i4)))), none, some (.long y7), none, some (.int (i4 + (1 : Int32)))]) dX10_worth_60 rfl rfl (Nat.le_of_ble_eq_true rfl) rfl ?_
      refine AW.goto (tgt := 24) dX10_worth_63 (by decide) ?_
      exact AW.weak _ (by exact (And.intro rfl (And.intro rfl (And.intro rfl (And.intro rfl (And.intro rfl trivial)))))) (ih (q2 + (J 78 (tn i4))) y7 (i4 + (1 : Int32)) hf hE)
def f_X10_worth (N : Nat) (ρ : Rh) (I : Nat → Nat → Int32) (J : Nat → Nat → Int64) (p1 : Int32) : Option (Int64) := (((if ((I 42 0) ≤ (0 : Int32)) then some (0 : Int64) else some (1000000000000 : Int64)) : Option (Int64)).bind fun j1 => ((f_X10_worth_24 N I J ρ p1 N (0 : Int64) j1 (0 : Int32)).bind fun j8 => (if (p1 = (0 : Int32)) then some j8.1 else some j8.2)))
theorem c_X10_worth {G : Gd} {d N : Nat} {K : Ah → Option Value → Prop} {ρ : Rh} {I : Nat → Nat → Int32} {J : Nat → Nat → Int64} {p1 : Int32} {o : Int64} (hs : Sh ρ) (hf : f_X10_worth N ρ I J p1 = some o) (hK : K (I, J, ρ) (some (.long o))) : AM G (d + 1) 0 0 mX10_worth [.ref 48, .int p1] (I, J, ρ) K := by
  unfold f_X10_worth at hf
  refine AM.intro okX10_worth.2.2.2.1 (Nat.le_of_ble_eq_true rfl) [some (.ref 48), some (.int p1), none, none, none, none, none] rfl ?_
  refine AW.lconst (v := (0 : Int64)) dX10_worth_0 (by decide) ?_
  refine AW.lstore_n (ls' := [some (.ref 48), some (.int p1), some (.long (0 : Int64)), none, none, none, none]) dX10_worth_1 (Nat.le_of_ble_eq_true rfl) rfl ?_
  refine AW.aload_n dX10_worth_2 rfl ?_
  refine TW.getR fX10_36_10 hs.k48 (rf_some hs.r48_0) dX10_worth_3 ?_
  refine TW.getI (x := (I 42 0)) fX10_111_0 hs.k42 rfl dX10_worth_6 ?_
  obtain ⟨j1, gj1, hf⟩ := ob_split hf
  have Kj1 : AW G mX10_worth (d + 1) 0 0 K 19 [some (.ref 48), some (.int p1), some (.long (0 : Int64)), none, none, none, none] [.long j1] (I, J, ρ) := by
    refine AW.lstore (ls' := [some (.ref 48), some (.int p1), some (.long (0 : Int64)), none, some (.long j1), none, none]) dX10_worth_19 (Nat.le_of_ble_eq_true rfl) rfl ?_
    refine AW.iconst (v := (0 : Int32)) dX10_worth_21 (by decide) ?_
    refine AW.istore (ls' := [some (.ref 48), some (.int p1), some (.long (0 : Int64)), none, some (.long j1), none, some (.int (0 : Int32))]) dX10_worth_22 (Nat.le_of_ble_eq_true rfl) rfl ?_
    obtain ⟨j8, gj8, hf⟩ := ob_split hf
    refine AW.weak _ (by exact (And.intro rfl (And.intro rfl (And.intro rfl (And.intro rfl (And.intro rfl trivial)))))) (l_X10_worth_24 hs N (0 : Int64) j1 (0 : Int32) gj8 ?_)
    show AW G mX10_worth (d + 1) 0 0 K 66 [none, some (.int p1), some (.long j8.1), none, some (.long j8.2), none, none] [] (I, J, ρ)
    refine AW.iload_n dX10_worth_66 rfl ?_
    refine AW.if_ne (tgt := 74) dX10_worth_67 (by decide) (fun hc => ?_) (fun hc => ?_)
    · have hf := (if_neg hc).symm.trans hf
      refine AW.lload dX10_worth_74 rfl ?_
      obtain rfl := Option.some.inj hf
      exact AW.lret (st := []) dX10_worth_76 rfl hK
    · have hf := (if_pos hc).symm.trans hf
      refine AW.lload_n dX10_worth_70 rfl ?_
      refine AW.goto (tgt := 76) dX10_worth_71 (by decide) ?_
      obtain rfl := Option.some.inj hf
      exact AW.lret (st := []) dX10_worth_76 rfl hK
  clear hf; have hf := gj1; clear gj1
  refine AW.if_le (tgt := 18) dX10_worth_9 (by decide) (fun hc => ?_) (fun hc => ?_)
  · have hf := (if_pos hc).symm.trans hf
    refine AW.lconst (v := (0 : Int64)) dX10_worth_18 (by decide) ?_
    obtain rfl := Option.some.inj hf
    exact AW.weak _ (by exact (And.intro rfl (And.intro rfl (And.intro rfl trivial)))) Kj1
  · have hf := (if_neg hc).symm.trans hf
    refine AW.ldc2 dX10_worth_12 kcX10_165 ?_
    refine AW.goto (tgt := 19) dX10_worth_15 (by decide) ?_
    obtain rfl := Option.some.inj hf
    exact AW.weak _ (by exact (And.intro rfl (And.intro rfl (And.intro rfl trivial)))) Kj1
def f_X10_firstDeath_2 (N : Nat) (I : Nat → Nat → Int32) (J : Nat → Nat → Int64) (ρ : Rh) : Nat → Int32 → Option ((Int32) ⊕ (Unit))
  | 0, _ => none
  | n + 1, i1 => (if ((I 45 0) ≤ i1) then some (Sum.inr ()) else (Option.bind (f_X10_living N ρ I J (i1 + (1 : Int32))) fun v2 => (Option.bind (f_X10_living N ρ I J i1) fun v3 => (if (v3 ≤ v2) then f_X10_firstDeath_2 N I J ρ n (i1 + (1 : Int32)) else some (Sum.inl i1)))))
theorem l_X10_firstDeath_2 {G : Gd} {d N : Nat} {K : Ah → Option Value → Prop} {I : Nat → Nat → Int32} {J : Nat → Nat → Int64} {ρ : Rh} (hs : Sh ρ) {o : (Int32) ⊕ (Unit)} : ∀ (n : Nat) (i1 : Int32), f_X10_firstDeath_2 N I J ρ n i1 = some o → scase o (fun r => K (I, J, ρ) (some (.int r))) (fun o => AW G mX10_firstDeath (d + 1) 0 0 K 38 [none, none] [] (I, J, ρ)) → AW G mX10_firstDeath (d + 1) 0 0 K 2 [some (.ref 48), some (.int i1)] [] (I, J, ρ) := by
  intro n
  induction n with
  | zero => intro i1 hf hE; rw [f_X10_firstDeath_2.eq_1] at hf; cases hf
  | succ n ih =>
    intro i1 hf hE
    rw [f_X10_firstDeath_2.eq_2] at hf
    refine AW.iload_n dX10_firstDeath_2 rfl ?_
    refine AW.aload_n dX10_firstDeath_3 rfl ?_
    refine TW.getR fX10_36_10 hs.k48 (rf_some hs.r48_0) dX10_firstDeath_4 ?_
    refine TW.getR fX10_40_0 hs.k42 (rf_some hs.r42_3) dX10_firstDeath_7 ?_
    refine AW.iconst (v := (0 : Int32)) dX10_firstDeath_10 (by decide) ?_
    refine TW.iald (x := (I 45 0)) hs.k45 (show ¬ ((0 : Int32) < 0 ∨ 4 ≤ (0 : Int32).toNatClampNeg) by decide) rfl dX10_firstDeath_11 ?_
    refine AW.icmp_ge (tgt := 38) dX10_firstDeath_12 (by decide) (fun hc => ?_) (fun hc => ?_)
    · have hf := (if_pos hc).symm.trans hf
      obtain rfl := Option.some.inj hf
      exact AW.weak _ (by exact trivial) hE
    · have hf := (if_neg hc).symm.trans hf
      refine AW.aload_n dX10_firstDeath_15 rfl ?_
      refine AW.iload_n dX10_firstDeath_16 rfl ?_
      refine AW.iconst (v := (1 : Int32)) dX10_firstDeath_17 (by decide) ?_
      refine AW.iadd dX10_firstDeath_18 ?_
      obtain ⟨v2, gv2, hf⟩ := ob_split hf
      refine TW.invv (as := [.int (i1 + (1 : Int32))]) (rest := []) viX10_83_10 hs.k48 dX10_firstDeath_19 rfl rfl (Nat.le_of_ble_eq_true rfl) (c_X10_living hs gv2 ?_)
      show AW G mX10_firstDeath (d + 1) 0 0 K 22 [some (.ref 48), some (.int i1)] [.int v2] (I, J, ρ)
      refine AW.aload_n dX10_firstDeath_22 rfl ?_
      refine AW.iload_n dX10_firstDeath_23 rfl ?_
      obtain ⟨v3, gv3, hf⟩ := ob_split hf
      refine TW.invv (as := [.int i1]) (rest := [.int v2]) viX10_83_10 hs.k48 dX10_firstDeath_24 rfl rfl (Nat.le_of_ble_eq_true rfl) (c_X10_living hs gv3 ?_)
      show AW G mX10_firstDeath (d + 1) 0 0 K 27 [some (.ref 48), some (.int i1)] [.int v3, .int v2] (I, J, ρ)
      refine AW.icmp_ge (tgt := 32) dX10_firstDeath_27 (by decide) (fun hc => ?_) (fun hc => ?_)
      · have hf := (if_pos hc).symm.trans hf
        refine AW.iinc (v := (i1 + (1 : Int32))) (ls' := [some (.ref 48), some (.int (i1 + (1 : Int32)))]) dX10_firstDeath_32 rfl rfl (Nat.le_of_ble_eq_true rfl) rfl ?_
        refine AW.goto (tgt := 2) dX10_firstDeath_35 (by decide) ?_
        exact AW.weak _ (by exact (And.intro rfl (And.intro rfl trivial))) (ih (i1 + (1 : Int32)) hf hE)
      · have hf := (if_neg hc).symm.trans hf
        refine AW.iload_n dX10_firstDeath_30 rfl ?_
        obtain rfl := Option.some.inj hf
        exact AW.iret (st := []) dX10_firstDeath_31 rfl hE
def f_X10_firstDeath (N : Nat) (ρ : Rh) (I : Nat → Nat → Int32) (J : Nat → Nat → Int64) : Option (Int32) := ((f_X10_firstDeath_2 N I J ρ N (0 : Int32)).bind fun j4 => scase j4 (fun r => some r) (fun j4 => some (-1 : Int32)))
theorem c_X10_firstDeath {G : Gd} {d N : Nat} {K : Ah → Option Value → Prop} {ρ : Rh} {I : Nat → Nat → Int32} {J : Nat → Nat → Int64} {o : Int32} (hs : Sh ρ) (hf : f_X10_firstDeath N ρ I J = some o) (hK : K (I, J, ρ) (some (.int o))) : AM G (d + 1) 0 0 mX10_firstDeath [.ref 48] (I, J, ρ) K := by
  unfold f_X10_firstDeath at hf
  refine AM.intro okX10_firstDeath.2.2.2.1 (Nat.le_of_ble_eq_true rfl) [some (.ref 48), none] rfl ?_
  refine AW.iconst (v := (0 : Int32)) dX10_firstDeath_0 (by decide) ?_
  refine AW.istore_n (ls' := [some (.ref 48), some (.int (0 : Int32))]) dX10_firstDeath_1 (Nat.le_of_ble_eq_true rfl) rfl ?_
  obtain ⟨j4, gj4, hf⟩ := ob_split hf
  refine AW.weak _ (by exact (And.intro rfl (And.intro rfl trivial))) (l_X10_firstDeath_2 hs N (0 : Int32) gj4 ?_)
  rcases j4 with r | j4
  · obtain rfl := Option.some.inj hf; exact hK
  · show AW G mX10_firstDeath (d + 1) 0 0 K 38 [none, none] [] (I, J, ρ)
    refine AW.iconst (v := (-1 : Int32)) dX10_firstDeath_38 (by decide) ?_
    obtain rfl := Option.some.inj hf
    exact AW.iret (st := []) dX10_firstDeath_39 rfl hK
def f_X11_isRows (N : Nat) (ρ : Rh) (I : Nat → Nat → Int32) (J : Nat → Nat → Int64) (p1 : Int32) : Option (Int32) := (if (p1 < (0 : Int32)) then some (0 : Int32) else (if ((9 : Int32) < p1) then some (0 : Int32) else some (1 : Int32)))
theorem c_X11_isRows {G : Gd} {d N : Nat} {K : Ah → Option Value → Prop} {ρ : Rh} {I : Nat → Nat → Int32} {J : Nat → Nat → Int64} {p1 : Int32} {o : Int32} (hs : Sh ρ) (hf : f_X11_isRows N ρ I J p1 = some o) (hK : K (I, J, ρ) (some (.int o))) : AM G d 0 0 mX11_isRows [.int p1] (I, J, ρ) K := by
  unfold f_X11_isRows at hf
  refine AM.intro okX11_isRows.2.2.2.1 (Nat.le_of_ble_eq_true rfl) [some (.int p1)] rfl ?_
  refine AW.iload_n dX11_isRows_0 rfl ?_
  refine AW.if_lt (tgt := 14) dX11_isRows_1 (by decide) (fun hc => ?_) (fun hc => ?_)
  · have hf := (if_pos hc).symm.trans hf
    refine AW.iconst (v := (0 : Int32)) dX11_isRows_14 (by decide) ?_
    obtain rfl := Option.some.inj hf
    exact AW.zret (st := []) dX11_isRows_15 rfl (Or.inl rfl) hK
  · have hf := (if_neg hc).symm.trans hf
    refine AW.iload_n dX11_isRows_4 rfl ?_
    refine AW.bipush (v := (9 : Int32)) dX11_isRows_5 (by decide) ?_
    refine AW.icmp_gt (tgt := 14) dX11_isRows_7 (by decide) (fun hc => ?_) (fun hc => ?_)
    · have hf := (if_pos hc).symm.trans hf
      refine AW.iconst (v := (0 : Int32)) dX11_isRows_14 (by decide) ?_
      obtain rfl := Option.some.inj hf
      exact AW.zret (st := []) dX11_isRows_15 rfl (Or.inl rfl) hK
    · have hf := (if_neg hc).symm.trans hf
      refine AW.iconst (v := (1 : Int32)) dX11_isRows_10 (by decide) ?_
      refine AW.goto (tgt := 15) dX11_isRows_11 (by decide) ?_
      obtain rfl := Option.some.inj hf
      exact AW.zret (st := []) dX11_isRows_15 rfl (Or.inr rfl) hK
def f_X11_isStore (N : Nat) (ρ : Rh) (I : Nat → Nat → Int32) (J : Nat → Nat → Int64) (p1 : Int32) : Option (Int32) := (if (p1 < (1 : Int32)) then some (0 : Int32) else (if ((99 : Int32) < p1) then some (0 : Int32) else some (1 : Int32)))
theorem c_X11_isStore {G : Gd} {d N : Nat} {K : Ah → Option Value → Prop} {ρ : Rh} {I : Nat → Nat → Int32} {J : Nat → Nat → Int64} {p1 : Int32} {o : Int32} (hs : Sh ρ) (hf : f_X11_isStore N ρ I J p1 = some o) (hK : K (I, J, ρ) (some (.int o))) : AM G d 0 0 mX11_isStore [.int p1] (I, J, ρ) K := by
  unfold f_X11_isStore at hf
  refine AM.intro okX11_isStore.2.2.2.1 (Nat.le_of_ble_eq_true rfl) [some (.int p1)] rfl ?_
  refine AW.iload_n dX11_isStore_0 rfl ?_
  refine AW.iconst (v := (1 : Int32)) dX11_isStore_1 (by decide) ?_
  refine AW.icmp_lt (tgt := 15) dX11_isStore_2 (by decide) (fun hc => ?_) (fun hc => ?_)
  · have hf := (if_pos hc).symm.trans hf
    refine AW.iconst (v := (0 : Int32)) dX11_isStore_15 (by decide) ?_
    obtain rfl := Option.some.inj hf
    exact AW.zret (st := []) dX11_isStore_16 rfl (Or.inl rfl) hK
  · have hf := (if_neg hc).symm.trans hf
    refine AW.iload_n dX11_isStore_5 rfl ?_
    refine AW.bipush (v := (99 : Int32)) dX11_isStore_6 (by decide) ?_
    refine AW.icmp_gt (tgt := 15) dX11_isStore_8 (by decide) (fun hc => ?_) (fun hc => ?_)
    · have hf := (if_pos hc).symm.trans hf
      refine AW.iconst (v := (0 : Int32)) dX11_isStore_15 (by decide) ?_
      obtain rfl := Option.some.inj hf
      exact AW.zret (st := []) dX11_isStore_16 rfl (Or.inl rfl) hK
    · have hf := (if_neg hc).symm.trans hf
      refine AW.iconst (v := (1 : Int32)) dX11_isStore_11 (by decide) ?_
      refine AW.goto (tgt := 16) dX11_isStore_12 (by decide) ?_
      obtain rfl := Option.some.inj hf
      exact AW.zret (st := []) dX11_isStore_16 rfl (Or.inr rfl) hK
