/-! ===== methods 14.model 7 ===== -/
def f_X12_best_19 (N : Nat) (J : Nat → Nat → Int64) (ρ : Rh) (p1 : Int32) : Nat → (Nat → Nat → Int32) → Int32 → Int64 → Int32 → Option ((Nat → Nat → Int32) × Int32)
  | 0, _, _, _, _ => none
  | n + 1, I2, i3, q4, i5 => (if ((I2 89 9) ≤ i5) then some (I2, i3) else (Option.bind (f_X12_meanOf N ρ I2 J i5 p1) fun v6 => (((if (i3 = (-1 : Int32)) then some (i5, v6.2) else (if (v6.2 ≤ q4) then some (i3, q4) else some (i5, v6.2))) : Option (Int32 × Int64)).bind fun j7 => f_X12_best_19 N J ρ p1 n v6.1 j7.1 j7.2 (i5 + (1 : Int32)))))
theorem l_X12_best_19 {G : Gd} {d N : Nat} {K : Ah → Option Value → Prop} {J : Nat → Nat → Int64} {ρ : Rh} {p1 : Int32} (hs : Sh ρ) {o : (Nat → Nat → Int32) × Int32} : ∀ (n : Nat) (I2 : Nat → Nat → Int32) (i3 : Int32) (q4 : Int64) (i5 : Int32), f_X12_best_19 N J ρ p1 n I2 i3 q4 i5 = some o → AW G mX12_best (d + 5) 0 0 K 61 [none, none, some (.int o.2), none, none, none, none, none] [] (o.1, J, ρ) → AW G mX12_best (d + 5) 0 0 K 19 [some (.ref 89), some (.int p1), some (.int i3), some (.long q4), none, some (.int i5), none, none] [] (I2, J, ρ) := by
  intro n
  induction n with
  | zero => intro I2 i3 q4 i5 hf hE; rw [f_X12_best_19.eq_1] at hf; cases hf
  | succ n ih =>
    intro I2 i3 q4 i5 hf hE
    rw [f_X12_best_19.eq_2] at hf
    refine AW.iload dX12_best_19 rfl ?_
    refine AW.aload_n dX12_best_21 rfl ?_
    refine TW.getI (x := (I2 89 9)) fX12_137_12 hs.k89 rfl dX12_best_22 ?_
    refine AW.icmp_ge (tgt := 61) dX12_best_25 (by decide) (fun hc => ?_) (fun hc => ?_)
    · have hf := (if_pos hc).symm.trans hf
      obtain rfl := Option.some.inj hf
      exact AW.weak _ (by exact (And.intro rfl trivial)) hE
    · have hf := (if_neg hc).symm.trans hf
      refine AW.aload_n dX12_best_28 rfl ?_
      refine AW.iload dX12_best_29 rfl ?_
      refine AW.iload_n dX12_best_31 rfl ?_
      obtain ⟨v6, gv6, hf⟩ := ob_split hf
      refine TW.invv (as := [.int i5, .int p1]) (rest := []) viX12_264_12 hs.k89 dX12_best_32 rfl rfl (Nat.le_of_ble_eq_true rfl) (c_X12_meanOf hs gv6 ?_)
      show AW G mX12_best (d + 5) 0 0 K 35 [some (.ref 89), some (.int p1), some (.int i3), some (.long q4), none, some (.int i5), none, none] [.long v6.2] (v6.1, J, ρ)
      refine AW.lstore (ls' := [some (.ref 89), some (.int p1), some (.int i3), some (.long q4), none, some (.int i5), some (.long v6.2), none]) dX12_best_35 (Nat.le_of_ble_eq_true rfl) rfl ?_
      refine AW.iload_n dX12_best_37 rfl ?_
      refine AW.iconst (v := (-1 : Int32)) dX12_best_38 (by decide) ?_
      obtain ⟨j7, gj7, hf⟩ := ob_split hf
      have Kj7 : AW G mX12_best (d + 5) 0 0 K 55 [some (.ref 89), some (.int p1), some (.int j7.1), some (.long j7.2), none, some (.int i5), none, none] [] (v6.1, J, ρ) := by
        refine AW.iinc (v := (i5 + (1 : Int32))) (ls' := [some (.ref 89), some (.int p1), some (.int j7.1), some (.long j7.2), none, some (.int (i5 + (1 : Int32))), none, none]) dX12_best_55 rfl rfl (Nat.le_of_ble_eq_true rfl) rfl ?_
        refine AW.goto (tgt := 19) dX12_best_58 (by decide) ?_
        exact AW.weak _ (by exact (And.intro rfl (And.intro rfl (And.intro rfl (And.intro rfl (And.intro rfl trivial)))))) (ih v6.1 j7.1 j7.2 (i5 + (1 : Int32)) hf hE)
      clear hf; have hf := gj7; clear gj7
      refine AW.icmp_eq (tgt := 49) dX12_best_39 (by decide) (fun hc => ?_) (fun hc => ?_)
      · have hf := (if_pos hc).symm.trans hf
        refine AW.iload dX12_best_49 rfl ?_
        refine AW.istore_n (ls' := [some (.ref 89), some (.int p1), some (.int i5), some (.long q4), none, some (.int i5), some (.long v6.2), none]) dX12_best_51 (Nat.le_of_ble_eq_true rfl) rfl ?_
        refine AW.lload dX12_best_52 rfl ?_
        refine AW.lstore_n (ls' := [some (.ref 89), some (.int p1), some (.int i5), some (.long v6.2), none, some (.int i5), some (.long v6.2), none]) dX12_best_54 (Nat.le_of_ble_eq_true rfl) rfl ?_
        obtain rfl := Option.some.inj hf
        exact AW.weak _ (by exact (And.intro rfl (And.intro rfl (And.intro rfl (And.intro rfl (And.intro rfl trivial)))))) Kj7
      · have hf := (if_neg hc).symm.trans hf
        refine AW.lload dX12_best_42 rfl ?_
        refine AW.lload_n dX12_best_44 rfl ?_
        refine AW.lcmp dX12_best_45 ?_
        refine AW.if_le (tgt := 55) dX12_best_46 (by decide) (fun hc => ?_) (fun hc => ?_)
        · have hc : (v6.2 ≤ q4) := (lc_le _ _).mp hc; have hf := (if_pos hc).symm.trans hf
          obtain rfl := Option.some.inj hf
          exact AW.weak _ (by exact (And.intro rfl (And.intro rfl (And.intro rfl (And.intro rfl (And.intro rfl trivial)))))) Kj7
        · have hc : ¬ (v6.2 ≤ q4) := fun z => hc ((lc_le _ _).mpr z); have hf := (if_neg hc).symm.trans hf
          refine AW.iload dX12_best_49 rfl ?_
          refine AW.istore_n (ls' := [some (.ref 89), some (.int p1), some (.int i5), some (.long q4), none, some (.int i5), some (.long v6.2), none]) dX12_best_51 (Nat.le_of_ble_eq_true rfl) rfl ?_
          refine AW.lload dX12_best_52 rfl ?_
          refine AW.lstore_n (ls' := [some (.ref 89), some (.int p1), some (.int i5), some (.long v6.2), none, some (.int i5), some (.long v6.2), none]) dX12_best_54 (Nat.le_of_ble_eq_true rfl) rfl ?_
          obtain rfl := Option.some.inj hf
          exact AW.weak _ (by exact (And.intro rfl (And.intro rfl (And.intro rfl (And.intro rfl (And.intro rfl trivial)))))) Kj7
def f_X12_best (N : Nat) (ρ : Rh) (I : Nat → Nat → Int32) (J : Nat → Nat → Int64) (p1 : Int32) : Option ((Nat → Nat → Int32) × Int32) := (Option.bind (f_X12_in N ρ I J p1 (0 : Int32) (1 : Int32)) fun v1 => (if (v1 = (0 : Int32)) then some (I, (-2 : Int32)) else ((f_X12_best_19 N J ρ p1 N I (-1 : Int32) (0 : Int64) (0 : Int32)).bind fun j8 => some (j8.1, j8.2))))
theorem c_X12_best {G : Gd} {d N : Nat} {K : Ah → Option Value → Prop} {ρ : Rh} {I : Nat → Nat → Int32} {J : Nat → Nat → Int64} {p1 : Int32} {o : (Nat → Nat → Int32) × Int32} (hs : Sh ρ) (hf : f_X12_best N ρ I J p1 = some o) (hK : K (o.1, J, ρ) (some (.int o.2))) : AM G (d + 5) 0 0 mX12_best [.ref 89, .int p1] (I, J, ρ) K := by
  unfold f_X12_best at hf
  refine AM.intro okX12_best.2.2.2.1 (Nat.le_of_ble_eq_true rfl) [some (.ref 89), some (.int p1), none, none, none, none, none, none] rfl ?_
  refine AW.iload_n dX12_best_0 rfl ?_
  refine AW.iconst (v := (0 : Int32)) dX12_best_1 (by decide) ?_
  refine AW.iconst (v := (1 : Int32)) dX12_best_2 (by decide) ?_
  obtain ⟨v1, gv1, hf⟩ := ob_split hf
  refine TW.invs (as := [.int p1, .int (0 : Int32), .int (1 : Int32)]) (rest := []) stX12_133 dX12_best_3 rfl rfl (Nat.le_of_ble_eq_true rfl) (c_X12_in hs gv1 ?_)
  show AW G mX12_best (d + 5) 0 0 K 6 [some (.ref 89), some (.int p1), none, none, none, none, none, none] [.int v1] (I, J, ρ)
  refine AW.if_ne (tgt := 12) dX12_best_6 (by decide) (fun hc => ?_) (fun hc => ?_)
  · have hf := (if_neg hc).symm.trans hf
    refine AW.iconst (v := (-1 : Int32)) dX12_best_12 (by decide) ?_
    refine AW.istore_n (ls' := [some (.ref 89), some (.int p1), some (.int (-1 : Int32)), none, none, none, none, none]) dX12_best_13 (Nat.le_of_ble_eq_true rfl) rfl ?_
    refine AW.lconst (v := (0 : Int64)) dX12_best_14 (by decide) ?_
    refine AW.lstore_n (ls' := [some (.ref 89), some (.int p1), some (.int (-1 : Int32)), some (.long (0 : Int64)), none, none, none, none]) dX12_best_15 (Nat.le_of_ble_eq_true rfl) rfl ?_
    refine AW.iconst (v := (0 : Int32)) dX12_best_16 (by decide) ?_
    refine AW.istore (ls' := [some (.ref 89), some (.int p1), some (.int (-1 : Int32)), some (.long (0 : Int64)), none, some (.int (0 : Int32)), none, none]) dX12_best_17 (Nat.le_of_ble_eq_true rfl) rfl ?_
    obtain ⟨j8, gj8, hf⟩ := ob_split hf
    refine AW.weak _ (by exact (And.intro rfl (And.intro rfl (And.intro rfl (And.intro rfl (And.intro rfl trivial)))))) (l_X12_best_19 hs N I (-1 : Int32) (0 : Int64) (0 : Int32) gj8 ?_)
    show AW G mX12_best (d + 5) 0 0 K 61 [none, none, some (.int j8.2), none, none, none, none, none] [] (j8.1, J, ρ)
    refine AW.iload_n dX12_best_61 rfl ?_
    obtain rfl := Option.some.inj hf
    exact AW.iret (st := []) dX12_best_62 rfl hK
  · have hf := (if_pos hc).symm.trans hf
    refine AW.bipush (v := (-2 : Int32)) dX12_best_9 (by decide) ?_
    obtain rfl := Option.some.inj hf
    exact AW.iret (st := []) dX12_best_11 rfl hK
def f_X12_rations_24 (N : Nat) (J : Nat → Nat → Int64) (ρ : Rh) (p1 : Int32) (c3 : Int32) : Nat → (Nat → Nat → Int32) → Int32 → Int64 → Int32 → Option ((Nat → Nat → Int32) × Int32)
  | 0, _, _, _, _ => none
  | n + 1, I2, i4, q5, i6 => (if ((100 : Int32) ≤ i6) then some (I2, i4) else (Option.bind (f_X12_meanOf N ρ (u2 I2 89 5 i6) J p1 (0 : Int32)) fun v7 => (((if (i6 = (0 : Int32)) then some (i6, v7.2) else (if (v7.2 ≤ q5) then some (i4, q5) else some (i6, v7.2))) : Option (Int32 × Int64)).bind fun j8 => f_X12_rations_24 N J ρ p1 c3 n v7.1 j8.1 j8.2 (i6 + (1 : Int32)))))
theorem l_X12_rations_24 {G : Gd} {d N : Nat} {K : Ah → Option Value → Prop} {J : Nat → Nat → Int64} {ρ : Rh} {p1 : Int32} {c3 : Int32} (hs : Sh ρ) {o : (Nat → Nat → Int32) × Int32} : ∀ (n : Nat) (I2 : Nat → Nat → Int32) (i4 : Int32) (q5 : Int64) (i6 : Int32), f_X12_rations_24 N J ρ p1 c3 n I2 i4 q5 i6 = some o → AW G mX12_rations (d + 5) 0 0 K 71 [some (.ref 89), none, some (.int c3), some (.int o.2), none, none, none, none, none] [] (o.1, J, ρ) → AW G mX12_rations (d + 5) 0 0 K 24 [some (.ref 89), some (.int p1), some (.int c3), some (.int i4), some (.long q5), none, some (.int i6), none, none] [] (I2, J, ρ) := by
  intro n
  induction n with
  | zero => intro I2 i4 q5 i6 hf hE; rw [f_X12_rations_24.eq_1] at hf; cases hf
  | succ n ih =>
    intro I2 i4 q5 i6 hf hE
    rw [f_X12_rations_24.eq_2] at hf
    refine AW.iload dX12_rations_24 rfl ?_
    refine AW.bipush (v := (100 : Int32)) dX12_rations_26 (by decide) ?_
    refine AW.icmp_ge (tgt := 71) dX12_rations_28 (by decide) (fun hc => ?_) (fun hc => ?_)
    · have hf := (if_pos hc).symm.trans hf
      obtain rfl := Option.some.inj hf
      exact AW.weak _ (by exact (And.intro rfl (And.intro rfl (And.intro rfl trivial)))) hE
    · have hf := (if_neg hc).symm.trans hf
      refine AW.aload_n dX12_rations_31 rfl ?_
      refine AW.iload dX12_rations_32 rfl ?_
      refine TW.putI fX12_23_12 hs.k89 (Or.inl rfl) dX12_rations_34 ?_
      show AW G mX12_rations (d + 5) 0 0 K 37 [some (.ref 89), some (.int p1), some (.int c3), some (.int i4), some (.long q5), none, some (.int i6), none, none] [] ((u2 I2 89 5 i6), J, ρ)
      refine AW.aload_n dX12_rations_37 rfl ?_
      refine AW.iload_n dX12_rations_38 rfl ?_
      refine AW.iconst (v := (0 : Int32)) dX12_rations_39 (by decide) ?_
      obtain ⟨v7, gv7, hf⟩ := ob_split hf
      refine TW.invv (as := [.int p1, .int (0 : Int32)]) (rest := []) viX12_264_12 hs.k89 dX12_rations_40 rfl rfl (Nat.le_of_ble_eq_true rfl) (c_X12_meanOf hs gv7 ?_)
      show AW G mX12_rations (d + 5) 0 0 K 43 [some (.ref 89), some (.int p1), some (.int c3), some (.int i4), some (.long q5), none, some (.int i6), none, none] [.long v7.2] (v7.1, J, ρ)
      refine AW.lstore (ls' := [some (.ref 89), some (.int p1), some (.int c3), some (.int i4), some (.long q5), none, some (.int i6), some (.long v7.2), none]) dX12_rations_43 (Nat.le_of_ble_eq_true rfl) rfl ?_
      refine AW.iload dX12_rations_45 rfl ?_
      obtain ⟨j8, gj8, hf⟩ := ob_split hf
      have Kj8 : AW G mX12_rations (d + 5) 0 0 K 65 [some (.ref 89), some (.int p1), some (.int c3), some (.int j8.1), some (.long j8.2), none, some (.int i6), none, none] [] (v7.1, J, ρ) := by
        refine AW.iinc (v := (i6 + (1 : Int32))) (ls' := [some (.ref 89), some (.int p1), some (.int c3), some (.int j8.1), some (.long j8.2), none, some (.int (i6 + (1 : Int32))), none, none]) dX12_rations_65 rfl rfl (Nat.le_of_ble_eq_true rfl) rfl ?_
        refine AW.goto (tgt := 24) dX12_rations_68 (by decide) ?_
        exact AW.weak _ (by exact (And.intro rfl (And.intro rfl (And.intro rfl (And.intro rfl (And.intro rfl (And.intro rfl trivial))))))) (ih v7.1 j8.1 j8.2 (i6 + (1 : Int32)) hf hE)
      clear hf; have hf := gj8; clear gj8
      refine AW.if_eq (tgt := 58) dX12_rations_47 (by decide) (fun hc => ?_) (fun hc => ?_)
      · have hf := (if_pos hc).symm.trans hf
        refine AW.iload dX12_rations_58 rfl ?_
        refine AW.istore_n (ls' := [some (.ref 89), some (.int p1), some (.int c3), some (.int i6), some (.long q5), none, some (.int i6), some (.long v7.2), none]) dX12_rations_60 (Nat.le_of_ble_eq_true rfl) rfl ?_
        refine AW.lload dX12_rations_61 rfl ?_
        refine AW.lstore (ls' := [some (.ref 89), some (.int p1), some (.int c3), some (.int i6), some (.long v7.2), none, some (.int i6), some (.long v7.2), none]) dX12_rations_63 (Nat.le_of_ble_eq_true rfl) rfl ?_
        obtain rfl := Option.some.inj hf
        exact AW.weak _ (by exact (And.intro rfl (And.intro rfl (And.intro rfl (And.intro rfl (And.intro rfl (And.intro rfl trivial))))))) Kj8
      · have hf := (if_neg hc).symm.trans hf
        refine AW.lload dX12_rations_50 rfl ?_
        refine AW.lload dX12_rations_52 rfl ?_
        refine AW.lcmp dX12_rations_54 ?_
        refine AW.if_le (tgt := 65) dX12_rations_55 (by decide) (fun hc => ?_) (fun hc => ?_)
        · have hc : (v7.2 ≤ q5) := (lc_le _ _).mp hc; have hf := (if_pos hc).symm.trans hf
          obtain rfl := Option.some.inj hf
          exact AW.weak _ (by exact (And.intro rfl (And.intro rfl (And.intro rfl (And.intro rfl (And.intro rfl (And.intro rfl trivial))))))) Kj8
        · have hc : ¬ (v7.2 ≤ q5) := fun z => hc ((lc_le _ _).mpr z); have hf := (if_neg hc).symm.trans hf
          refine AW.iload dX12_rations_58 rfl ?_
          refine AW.istore_n (ls' := [some (.ref 89), some (.int p1), some (.int c3), some (.int i6), some (.long q5), none, some (.int i6), some (.long v7.2), none]) dX12_rations_60 (Nat.le_of_ble_eq_true rfl) rfl ?_
          refine AW.lload dX12_rations_61 rfl ?_
          refine AW.lstore (ls' := [some (.ref 89), some (.int p1), some (.int c3), some (.int i6), some (.long v7.2), none, some (.int i6), some (.long v7.2), none]) dX12_rations_63 (Nat.le_of_ble_eq_true rfl) rfl ?_
          obtain rfl := Option.some.inj hf
          exact AW.weak _ (by exact (And.intro rfl (And.intro rfl (And.intro rfl (And.intro rfl (And.intro rfl (And.intro rfl trivial))))))) Kj8
def f_X12_rations (N : Nat) (ρ : Rh) (I : Nat → Nat → Int32) (J : Nat → Nat → Int64) (p1 : Int32) : Option ((Nat → Nat → Int32) × Int32) := (Option.bind (f_X12_isRule N ρ I J p1) fun v1 => (if (v1 = (0 : Int32)) then some (I, (-5 : Int32)) else ((f_X12_rations_24 N J ρ p1 (I 89 5) N I (0 : Int32) (0 : Int64) (0 : Int32)).bind fun j9 => some ((u2 j9.1 89 5 (I 89 5)), j9.2))))
theorem c_X12_rations {G : Gd} {d N : Nat} {K : Ah → Option Value → Prop} {ρ : Rh} {I : Nat → Nat → Int32} {J : Nat → Nat → Int64} {p1 : Int32} {o : (Nat → Nat → Int32) × Int32} (hs : Sh ρ) (hf : f_X12_rations N ρ I J p1 = some o) (hK : K (o.1, J, ρ) (some (.int o.2))) : AM G (d + 5) 0 0 mX12_rations [.ref 89, .int p1] (I, J, ρ) K := by
  unfold f_X12_rations at hf
  refine AM.intro okX12_rations.2.2.2.1 (Nat.le_of_ble_eq_true rfl) [some (.ref 89), some (.int p1), none, none, none, none, none, none, none] rfl ?_
  refine AW.aload_n dX12_rations_0 rfl ?_
  refine AW.iload_n dX12_rations_1 rfl ?_
  obtain ⟨v1, gv1, hf⟩ := ob_split hf
  refine TW.invv (as := [.int p1]) (rest := []) viX12_154_12 hs.k89 dX12_rations_2 rfl rfl (Nat.le_of_ble_eq_true rfl) (c_X12_isRule hs gv1 ?_)
  show AW G mX12_rations (d + 5) 0 0 K 5 [some (.ref 89), some (.int p1), none, none, none, none, none, none, none] [.int v1] (I, J, ρ)
  refine AW.if_ne (tgt := 11) dX12_rations_5 (by decide) (fun hc => ?_) (fun hc => ?_)
  · have hf := (if_neg hc).symm.trans hf
    refine AW.aload_n dX12_rations_11 rfl ?_
    refine TW.getI (x := (I 89 5)) fX12_23_12 hs.k89 rfl dX12_rations_12 ?_
    refine AW.istore_n (ls' := [some (.ref 89), some (.int p1), some (.int (I 89 5)), none, none, none, none, none, none]) dX12_rations_15 (Nat.le_of_ble_eq_true rfl) rfl ?_
    refine AW.iconst (v := (0 : Int32)) dX12_rations_16 (by decide) ?_
    refine AW.istore_n (ls' := [some (.ref 89), some (.int p1), some (.int (I 89 5)), some (.int (0 : Int32)), none, none, none, none, none]) dX12_rations_17 (Nat.le_of_ble_eq_true rfl) rfl ?_
    refine AW.lconst (v := (0 : Int64)) dX12_rations_18 (by decide) ?_
    refine AW.lstore (ls' := [some (.ref 89), some (.int p1), some (.int (I 89 5)), some (.int (0 : Int32)), some (.long (0 : Int64)), none, none, none, none]) dX12_rations_19 (Nat.le_of_ble_eq_true rfl) rfl ?_
    refine AW.iconst (v := (0 : Int32)) dX12_rations_21 (by decide) ?_
    refine AW.istore (ls' := [some (.ref 89), some (.int p1), some (.int (I 89 5)), some (.int (0 : Int32)), some (.long (0 : Int64)), none, some (.int (0 : Int32)), none, none]) dX12_rations_22 (Nat.le_of_ble_eq_true rfl) rfl ?_
    obtain ⟨j9, gj9, hf⟩ := ob_split hf
    refine AW.weak _ (by exact (And.intro rfl (And.intro rfl (And.intro rfl (And.intro rfl (And.intro rfl (And.intro rfl trivial))))))) (l_X12_rations_24 hs N I (0 : Int32) (0 : Int64) (0 : Int32) gj9 ?_)
    show AW G mX12_rations (d + 5) 0 0 K 71 [some (.ref 89), none, some (.int (I 89 5)), some (.int j9.2), none, none, none, none, none] [] (j9.1, J, ρ)
    refine AW.aload_n dX12_rations_71 rfl ?_
    refine AW.iload_n dX12_rations_72 rfl ?_
    refine TW.putI fX12_23_12 hs.k89 (Or.inl rfl) dX12_rations_73 ?_
    show AW G mX12_rations (d + 5) 0 0 K 76 [some (.ref 89), none, some (.int (I 89 5)), some (.int j9.2), none, none, none, none, none] [] ((u2 j9.1 89 5 (I 89 5)), J, ρ)
    refine AW.iload_n dX12_rations_76 rfl ?_
    obtain rfl := Option.some.inj hf
    exact AW.iret (st := []) dX12_rations_77 rfl hK
  · have hf := (if_pos hc).symm.trans hf
    refine AW.bipush (v := (-5 : Int32)) dX12_rations_8 (by decide) ?_
    obtain rfl := Option.some.inj hf
    exact AW.iret (st := []) dX12_rations_10 rfl hK
def f_X12_keeps_7 (N : Nat) (I : Nat → Nat → Int32) (ρ : Rh) : Nat → (Nat → Nat → Int64) → Int32 → Option ((Nat → Nat → Int64))
  | 0, _, _ => none
  | n + 1, J2, i3 => (if ((I 89 0) ≤ i3) then some J2 else (Option.bind (f_X12_homeOf N ρ I J2 i3) fun v4 => (if ¬ (i3 < 0 ∨ 8 ≤ tn i3) then f_X12_keeps_7 N I ρ n (u2 J2 114 (tn i3) v4) (i3 + (1 : Int32)) else none)))
theorem l_X12_keeps_7 {G : Gd} {d N : Nat} {K : Ah → Option Value → Prop} {I : Nat → Nat → Int32} {ρ : Rh} (hs : Sh ρ) {o : (Nat → Nat → Int64)} : ∀ (n : Nat) (J2 : Nat → Nat → Int64) (i3 : Int32), f_X12_keeps_7 N I ρ n J2 i3 = some o → AW G mX12_keeps (d + 4) 0 0 K 32 [none, none, none] [] (I, o, ρ) → AW G mX12_keeps (d + 4) 0 0 K 7 [some (.ref 89), none, some (.int i3)] [] (I, J2, ρ) := by
  intro n
  induction n with
  | zero => intro J2 i3 hf hE; rw [f_X12_keeps_7.eq_1] at hf; cases hf
  | succ n ih =>
    intro J2 i3 hf hE
    rw [f_X12_keeps_7.eq_2] at hf
    refine AW.iload_n dX12_keeps_7 rfl ?_
    refine AW.aload_n dX12_keeps_8 rfl ?_
    refine TW.getI (x := (I 89 0)) fX12_130_12 hs.k89 rfl dX12_keeps_9 ?_
    refine AW.icmp_ge (tgt := 32) dX12_keeps_12 (by decide) (fun hc => ?_) (fun hc => ?_)
    · have hf := (if_pos hc).symm.trans hf
      obtain rfl := Option.some.inj hf
      exact AW.weak _ (by exact trivial) hE
    · have hf := (if_neg hc).symm.trans hf
      refine AW.aload_n dX12_keeps_15 rfl ?_
      refine TW.getR fX12_121_12 hs.k89 (rf_some hs.r89_48) dX12_keeps_16 ?_
      refine AW.iload_n dX12_keeps_19 rfl ?_
      refine AW.aload_n dX12_keeps_20 rfl ?_
      refine AW.iload_n dX12_keeps_21 rfl ?_
      obtain ⟨v4, gv4, hf⟩ := ob_split hf
      refine TW.invv (as := [.int i3]) (rest := [.int i3, .ref 114]) viX12_256_12 hs.k89 dX12_keeps_22 rfl rfl (Nat.le_of_ble_eq_true rfl) (c_X12_homeOf hs gv4 ?_)
      show AW G mX12_keeps (d + 4) 0 0 K 25 [some (.ref 89), none, some (.int i3)] [.long v4, .int i3, .ref 114] (I, J2, ρ)
      obtain ⟨h5, hf⟩ := gd_split hf
      refine TW.last hs.k114 h5 dX12_keeps_25 ?_
      show AW G mX12_keeps (d + 4) 0 0 K 26 [some (.ref 89), none, some (.int i3)] [] (I, (u2 J2 114 (tn i3) v4), ρ)
      refine AW.iinc (v := (i3 + (1 : Int32))) (ls' := [some (.ref 89), none, some (.int (i3 + (1 : Int32)))]) dX12_keeps_26 rfl rfl (Nat.le_of_ble_eq_true rfl) rfl ?_
      refine AW.goto (tgt := 7) dX12_keeps_29 (by decide) ?_
      exact AW.weak _ (by exact (And.intro rfl (And.intro rfl trivial))) (ih (u2 J2 114 (tn i3) v4) (i3 + (1 : Int32)) hf hE)
def f_X12_keeps (N : Nat) (ρ : Rh) (I : Nat → Nat → Int32) (J : Nat → Nat → Int64) (p1 : Int32) : Option ((Nat → Nat → Int32) × (Nat → Nat → Int64)) := (Option.bind (f_X12_goesPlain N ρ I J p1) fun v1 => ((f_X12_keeps_7 N v1 ρ N J (0 : Int32)).bind fun j6 => some (v1, j6)))
theorem c_X12_keeps {G : Gd} {d N : Nat} {K : Ah → Option Value → Prop} {ρ : Rh} {I : Nat → Nat → Int32} {J : Nat → Nat → Int64} {p1 : Int32} {o : (Nat → Nat → Int32) × (Nat → Nat → Int64)} (hs : Sh ρ) (hf : f_X12_keeps N ρ I J p1 = some o) (hK : K (o.1, o.2, ρ) none) : AM G (d + 4) 0 0 mX12_keeps [.ref 89, .int p1] (I, J, ρ) K := by
  unfold f_X12_keeps at hf
  refine AM.intro okX12_keeps.2.2.2.1 (Nat.le_of_ble_eq_true rfl) [some (.ref 89), some (.int p1), none] rfl ?_
  refine AW.aload_n dX12_keeps_0 rfl ?_
  refine AW.iload_n dX12_keeps_1 rfl ?_
  obtain ⟨v1, gv1, hf⟩ := ob_split hf
  refine TW.invv (as := [.int p1]) (rest := []) viX12_253_12 hs.k89 dX12_keeps_2 rfl rfl (Nat.le_of_ble_eq_true rfl) (c_X12_goesPlain hs gv1 ?_)
  show AW G mX12_keeps (d + 4) 0 0 K 5 [some (.ref 89), some (.int p1), none] [] (v1, J, ρ)
  refine AW.iconst (v := (0 : Int32)) dX12_keeps_5 (by decide) ?_
  refine AW.istore_n (ls' := [some (.ref 89), some (.int p1), some (.int (0 : Int32))]) dX12_keeps_6 (Nat.le_of_ble_eq_true rfl) rfl ?_
  obtain ⟨j6, gj6, hf⟩ := ob_split hf
  refine AW.weak _ (by exact (And.intro rfl (And.intro rfl trivial))) (l_X12_keeps_7 hs N J (0 : Int32) gj6 ?_)
  show AW G mX12_keeps (d + 4) 0 0 K 32 [none, none, none] [] (v1, j6, ρ)
  obtain rfl := Option.some.inj hf
  exact AW.vret (st := []) dX12_keeps_32 rfl hK
def f_X12_would_10 (N : Nat) (I : Nat → Nat → Int32) (J : Nat → Nat → Int64) (ρ : Rh) (p2 : Int32) : Nat → Int32 → Option (((Nat → Nat → Int32) × Int32) ⊕ (Unit))
  | 0, _ => none
  | n + 1, i2 => (if ((I 89 0) ≤ i2) then some (Sum.inr ()) else (if (((p2 >>> (i2 &&& 31)) &&& (1 : Int32)) = (1 : Int32)) then (Option.bind (f_X12_homeOf N ρ I J i2) fun v3 => (if ¬ (i2 < 0 ∨ 8 ≤ tn i2) then (if ((J 114 (tn i2)) < v3) then f_X12_would_10 N I J ρ p2 n (i2 + (1 : Int32)) else some (Sum.inl (I, (0 : Int32)))) else none)) else f_X12_would_10 N I J ρ p2 n (i2 + (1 : Int32))))
theorem l_X12_would_10 {G : Gd} {d N : Nat} {K : Ah → Option Value → Prop} {I : Nat → Nat → Int32} {J : Nat → Nat → Int64} {ρ : Rh} {p2 : Int32} (hs : Sh ρ) {o : ((Nat → Nat → Int32) × Int32) ⊕ (Unit)} : ∀ (n : Nat) (i2 : Int32), f_X12_would_10 N I J ρ p2 n i2 = some o → scase o (fun r => K (r.1, J, ρ) (some (.int r.2))) (fun o => AW G mX12_would (d + 3) 0 0 K 50 [none, none, none, none] [] (I, J, ρ)) → AW G mX12_would (d + 3) 0 0 K 10 [some (.ref 89), none, some (.int p2), some (.int i2)] [] (I, J, ρ) := by
  intro n
  induction n with
  | zero => intro i2 hf hE; rw [f_X12_would_10.eq_1] at hf; cases hf
  | succ n ih =>
    intro i2 hf hE
    rw [f_X12_would_10.eq_2] at hf
    refine AW.iload_n dX12_would_10 rfl ?_
    refine AW.aload_n dX12_would_11 rfl ?_
    refine TW.getI (x := (I 89 0)) fX12_130_12 hs.k89 rfl dX12_would_12 ?_
    refine AW.icmp_ge (tgt := 50) dX12_would_15 (by decide) (fun hc => ?_) (fun hc => ?_)
    · have hf := (if_pos hc).symm.trans hf
      obtain rfl := Option.some.inj hf
      exact AW.weak _ (by exact trivial) hE
    · have hf := (if_neg hc).symm.trans hf
      refine AW.iload_n dX12_would_18 rfl ?_
      refine AW.iload_n dX12_would_19 rfl ?_
      refine AW.ishr dX12_would_20 ?_
      refine AW.iconst (v := (1 : Int32)) dX12_would_21 (by decide) ?_
      refine AW.iand dX12_would_22 ?_
      refine AW.iconst (v := (1 : Int32)) dX12_would_23 (by decide) ?_
      refine AW.icmp_ne (tgt := 44) dX12_would_24 (by decide) (fun hc => ?_) (fun hc => ?_)
      · have hf := (if_neg hc).symm.trans hf
        refine AW.iinc (v := (i2 + (1 : Int32))) (ls' := [some (.ref 89), none, some (.int p2), some (.int (i2 + (1 : Int32)))]) dX12_would_44 rfl rfl (Nat.le_of_ble_eq_true rfl) rfl ?_
        refine AW.goto (tgt := 10) dX12_would_47 (by decide) ?_
        exact AW.weak _ (by exact (And.intro rfl (And.intro rfl (And.intro rfl trivial)))) (ih (i2 + (1 : Int32)) hf hE)
      · have hf := (if_pos hc).symm.trans hf
        refine AW.aload_n dX12_would_27 rfl ?_
        refine AW.iload_n dX12_would_28 rfl ?_
        obtain ⟨v3, gv3, hf⟩ := ob_split hf
        refine TW.invv (as := [.int i2]) (rest := []) viX12_256_12 hs.k89 dX12_would_29 rfl rfl (Nat.le_of_ble_eq_true rfl) (c_X12_homeOf hs gv3 ?_)
        show AW G mX12_would (d + 3) 0 0 K 32 [some (.ref 89), none, some (.int p2), some (.int i2)] [.long v3] (I, J, ρ)
        refine AW.aload_n dX12_would_32 rfl ?_
        refine TW.getR fX12_121_12 hs.k89 (rf_some hs.r89_48) dX12_would_33 ?_
        refine AW.iload_n dX12_would_36 rfl ?_
        obtain ⟨h4, hf⟩ := gd_split hf
        refine TW.lald (x := (J 114 (tn i2))) hs.k114 h4 rfl dX12_would_37 ?_
        refine AW.lcmp dX12_would_38 ?_
        refine AW.if_gt (tgt := 44) dX12_would_39 (by decide) (fun hc => ?_) (fun hc => ?_)
        · have hc : ((J 114 (tn i2)) < v3) := (lc_gt _ _).mp hc; have hf := (if_pos hc).symm.trans hf
          refine AW.iinc (v := (i2 + (1 : Int32))) (ls' := [some (.ref 89), none, some (.int p2), some (.int (i2 + (1 : Int32)))]) dX12_would_44 rfl rfl (Nat.le_of_ble_eq_true rfl) rfl ?_
          refine AW.goto (tgt := 10) dX12_would_47 (by decide) ?_
          exact AW.weak _ (by exact (And.intro rfl (And.intro rfl (And.intro rfl trivial)))) (ih (i2 + (1 : Int32)) hf hE)
        · have hc : ¬ ((J 114 (tn i2)) < v3) := fun z => hc ((lc_gt _ _).mpr z); have hf := (if_neg hc).symm.trans hf
          refine AW.iconst (v := (0 : Int32)) dX12_would_42 (by decide) ?_
          obtain rfl := Option.some.inj hf
          exact AW.zret (st := []) dX12_would_43 rfl (Or.inl rfl) hE
def f_X12_would (N : Nat) (ρ : Rh) (I : Nat → Nat → Int32) (J : Nat → Nat → Int64) (p1 : Int32) (p2 : Int32) : Option ((Nat → Nat → Int32) × Int32) := (Option.bind (f_X12_goes N ρ I J p1 p2 (-1 : Int32) (0 : Int32)) fun v1 => ((f_X12_would_10 N v1 J ρ p2 N (0 : Int32)).bind fun j5 => scase j5 (fun r => some r) (fun j5 => some (v1, (1 : Int32)))))
theorem c_X12_would {G : Gd} {d N : Nat} {K : Ah → Option Value → Prop} {ρ : Rh} {I : Nat → Nat → Int32} {J : Nat → Nat → Int64} {p1 : Int32} {p2 : Int32} {o : (Nat → Nat → Int32) × Int32} (hs : Sh ρ) (hf : f_X12_would N ρ I J p1 p2 = some o) (hK : K (o.1, J, ρ) (some (.int o.2))) : AM G (d + 3) 0 0 mX12_would [.ref 89, .int p1, .int p2] (I, J, ρ) K := by
  unfold f_X12_would at hf
  refine AM.intro okX12_would.2.2.2.1 (Nat.le_of_ble_eq_true rfl) [some (.ref 89), some (.int p1), some (.int p2), none] rfl ?_
  refine AW.aload_n dX12_would_0 rfl ?_
  refine AW.iload_n dX12_would_1 rfl ?_
  refine AW.iload_n dX12_would_2 rfl ?_
  refine AW.iconst (v := (-1 : Int32)) dX12_would_3 (by decide) ?_
  refine AW.iconst (v := (0 : Int32)) dX12_would_4 (by decide) ?_
  obtain ⟨v1, gv1, hf⟩ := ob_split hf
  refine TW.invv (as := [.int p1, .int p2, .int (-1 : Int32), .int (0 : Int32)]) (rest := []) viX12_242_12 hs.k89 dX12_would_5 rfl rfl (Nat.le_of_ble_eq_true rfl) (c_X12_goes hs gv1 ?_)
  show AW G mX12_would (d + 3) 0 0 K 8 [some (.ref 89), some (.int p1), some (.int p2), none] [] (v1, J, ρ)
  refine AW.iconst (v := (0 : Int32)) dX12_would_8 (by decide) ?_
  refine AW.istore_n (ls' := [some (.ref 89), some (.int p1), some (.int p2), some (.int (0 : Int32))]) dX12_would_9 (Nat.le_of_ble_eq_true rfl) rfl ?_
  obtain ⟨j5, gj5, hf⟩ := ob_split hf
  refine AW.weak _ (by exact (And.intro rfl (And.intro rfl (And.intro rfl trivial)))) (l_X12_would_10 hs N (0 : Int32) gj5 ?_)
  rcases j5 with r | j5
  · obtain rfl := Option.some.inj hf; exact hK
  · show AW G mX12_would (d + 3) 0 0 K 50 [none, none, none, none] [] (v1, J, ρ)
    refine AW.iconst (v := (1 : Int32)) dX12_would_50 (by decide) ?_
    obtain rfl := Option.some.inj hf
    exact AW.zret (st := []) dX12_would_51 rfl (Or.inr rfl) hK
def f_X12_take (N : Nat) (ρ : Rh) (I : Nat → Nat → Int32) (J : Nat → Nat → Int64) (p1 : Int32) (p2 : Int32) : Option ((Nat → Nat → Int32) × (Nat → Nat → Int64) × Int32) := (Option.bind (f_X12_isRule N ρ I J p1) fun v1 => (if (v1 = (0 : Int32)) then some (I, J, (-5 : Int32)) else (Option.bind (f_X12_all N ρ I J) fun v2 => (Option.bind (f_X12_in N ρ I J p2 (1 : Int32) v2) fun v3 => (if (v3 = (0 : Int32)) then some (I, J, (-7 : Int32)) else (Option.bind (f_X12_keeps N ρ I J p1) fun v4 => (Option.bind (f_X12_would N ρ v4.1 v4.2 p1 p2) fun v5 => (if (v5.2 = (0 : Int32)) then some (v5.1, v4.2, (0 : Int32)) else some (v5.1, v4.2, (1 : Int32))))))))))
theorem c_X12_take {G : Gd} {d N : Nat} {K : Ah → Option Value → Prop} {ρ : Rh} {I : Nat → Nat → Int32} {J : Nat → Nat → Int64} {p1 : Int32} {p2 : Int32} {o : (Nat → Nat → Int32) × (Nat → Nat → Int64) × Int32} (hs : Sh ρ) (hf : f_X12_take N ρ I J p1 p2 = some o) (hK : K (o.1, o.2.1, ρ) (some (.int o.2.2))) : AM G (d + 5) 0 0 mX12_take [.ref 89, .int p1, .int p2] (I, J, ρ) K := by
  unfold f_X12_take at hf
  refine AM.intro okX12_take.2.2.2.1 (Nat.le_of_ble_eq_true rfl) [some (.ref 89), some (.int p1), some (.int p2)] rfl ?_
  refine AW.aload_n dX12_take_0 rfl ?_
  refine AW.iload_n dX12_take_1 rfl ?_
  obtain ⟨v1, gv1, hf⟩ := ob_split hf
  refine TW.invv (as := [.int p1]) (rest := []) viX12_154_12 hs.k89 dX12_take_2 rfl rfl (Nat.le_of_ble_eq_true rfl) (c_X12_isRule hs gv1 ?_)
  show AW G mX12_take (d + 5) 0 0 K 5 [some (.ref 89), some (.int p1), some (.int p2)] [.int v1] (I, J, ρ)
  refine AW.if_ne (tgt := 11) dX12_take_5 (by decide) (fun hc => ?_) (fun hc => ?_)
  · have hf := (if_neg hc).symm.trans hf
    refine AW.iload_n dX12_take_11 rfl ?_
    refine AW.iconst (v := (1 : Int32)) dX12_take_12 (by decide) ?_
    refine AW.aload_n dX12_take_13 rfl ?_
    obtain ⟨v2, gv2, hf⟩ := ob_split hf
    refine TW.invv (as := []) (rest := [.int (1 : Int32), .int p2]) viX12_239_12 hs.k89 dX12_take_14 rfl rfl (Nat.le_of_ble_eq_true rfl) (c_X12_all hs gv2 ?_)
    show AW G mX12_take (d + 5) 0 0 K 17 [some (.ref 89), some (.int p1), some (.int p2)] [.int v2, .int (1 : Int32), .int p2] (I, J, ρ)
    obtain ⟨v3, gv3, hf⟩ := ob_split hf
    refine TW.invs (as := [.int p2, .int (1 : Int32), .int v2]) (rest := []) stX12_133 dX12_take_17 rfl rfl (Nat.le_of_ble_eq_true rfl) (c_X12_in hs gv3 ?_)
    show AW G mX12_take (d + 5) 0 0 K 20 [some (.ref 89), some (.int p1), some (.int p2)] [.int v3] (I, J, ρ)
    refine AW.if_ne (tgt := 26) dX12_take_20 (by decide) (fun hc => ?_) (fun hc => ?_)
    · have hf := (if_neg hc).symm.trans hf
      refine AW.aload_n dX12_take_26 rfl ?_
      refine AW.iload_n dX12_take_27 rfl ?_
      obtain ⟨v4, gv4, hf⟩ := ob_split hf
      refine TW.invv (as := [.int p1]) (rest := []) viX12_268_12 hs.k89 dX12_take_28 rfl rfl (Nat.le_of_ble_eq_true rfl) (c_X12_keeps hs gv4 ?_)
      show AW G mX12_take (d + 5) 0 0 K 31 [some (.ref 89), some (.int p1), some (.int p2)] [] (v4.1, v4.2, ρ)
      refine AW.aload_n dX12_take_31 rfl ?_
      refine AW.iload_n dX12_take_32 rfl ?_
      refine AW.iload_n dX12_take_33 rfl ?_
      obtain ⟨v5, gv5, hf⟩ := ob_split hf
      refine TW.invv (as := [.int p1, .int p2]) (rest := []) viX12_271_12 hs.k89 dX12_take_34 rfl rfl (Nat.le_of_ble_eq_true rfl) (c_X12_would hs gv5 ?_)
      show AW G mX12_take (d + 5) 0 0 K 37 [some (.ref 89), some (.int p1), some (.int p2)] [.int v5.2] (v5.1, v4.2, ρ)
      refine AW.if_eq (tgt := 44) dX12_take_37 (by decide) (fun hc => ?_) (fun hc => ?_)
      · have hf := (if_pos hc).symm.trans hf
        refine AW.iconst (v := (0 : Int32)) dX12_take_44 (by decide) ?_
        obtain rfl := Option.some.inj hf
        exact AW.iret (st := []) dX12_take_45 rfl hK
      · have hf := (if_neg hc).symm.trans hf
        refine AW.iconst (v := (1 : Int32)) dX12_take_40 (by decide) ?_
        refine AW.goto (tgt := 45) dX12_take_41 (by decide) ?_
        obtain rfl := Option.some.inj hf
        exact AW.iret (st := []) dX12_take_45 rfl hK
    · have hf := (if_pos hc).symm.trans hf
      refine AW.bipush (v := (-7 : Int32)) dX12_take_23 (by decide) ?_
      obtain rfl := Option.some.inj hf
      exact AW.iret (st := []) dX12_take_25 rfl hK
  · have hf := (if_pos hc).symm.trans hf
    refine AW.bipush (v := (-5 : Int32)) dX12_take_8 (by decide) ?_
    obtain rfl := Option.some.inj hf
    exact AW.iret (st := []) dX12_take_10 rfl hK
def f_X12_ones_4 (N : Nat) (I : Nat → Nat → Int32) (J : Nat → Nat → Int64) (ρ : Rh) (p1 : Int32) : Nat → Int32 → Int32 → Option (Int32)
  | 0, _, _ => none
  | n + 1, i1, i2 => (if ((8 : Int32) ≤ i2) then some i1 else (bnd (i1 + ((p1 >>> (i2 &&& 31)) &&& (1 : Int32))) fun x3 => f_X12_ones_4 N I J ρ p1 n x3 (i2 + (1 : Int32))))
theorem l_X12_ones_4 {G : Gd} {d N : Nat} {K : Ah → Option Value → Prop} {I : Nat → Nat → Int32} {J : Nat → Nat → Int64} {ρ : Rh} {p1 : Int32} (hs : Sh ρ) {o : Int32} : ∀ (n : Nat) (i1 : Int32) (i2 : Int32), f_X12_ones_4 N I J ρ p1 n i1 i2 = some o → AW G mX12_ones d 0 0 K 24 [none, some (.int o), none] [] (I, J, ρ) → AW G mX12_ones d 0 0 K 4 [some (.int p1), some (.int i1), some (.int i2)] [] (I, J, ρ) := by
  intro n
  induction n with
  | zero => intro i1 i2 hf hE; rw [f_X12_ones_4.eq_1] at hf; cases hf
  | succ n ih =>
    intro i1 i2 hf hE
    rw [f_X12_ones_4.eq_2] at hf
    refine AW.iload_n dX12_ones_4 rfl ?_
    refine AW.bipush (v := (8 : Int32)) dX12_ones_5 (by decide) ?_
    refine AW.icmp_ge (tgt := 24) dX12_ones_7 (by decide) (fun hc => ?_) (fun hc => ?_)
    · have hf := (if_pos hc).symm.trans hf
      obtain rfl := Option.some.inj hf
      exact AW.weak _ (by exact (And.intro rfl trivial)) hE
    · have hf := (if_neg hc).symm.trans hf
      refine AW.iload_n dX12_ones_10 rfl ?_
      refine AW.iload_n dX12_ones_11 rfl ?_
      refine AW.iload_n dX12_ones_12 rfl ?_
      refine AW.ishr dX12_ones_13 ?_
      refine AW.iconst (v := (1 : Int32)) dX12_ones_14 (by decide) ?_
      refine AW.iand dX12_ones_15 ?_
      refine AW.iadd dX12_ones_16 ?_
      obtain ⟨x3, gx3, hf⟩ := bnd_one hf
      refine AW.nmI gx3 ?_
      refine AW.istore_n (ls' := [some (.int p1), some (.int x3), some (.int i2)]) dX12_ones_17 (Nat.le_of_ble_eq_true rfl) rfl ?_
      refine AW.iinc (v := (i2 + (1 : Int32))) (ls' := [some (.int p1), some (.int x3), some (.int (i2 + (1 : Int32)))]) dX12_ones_18 rfl rfl (Nat.le_of_ble_eq_true rfl) rfl ?_
      refine AW.goto (tgt := 4) dX12_ones_21 (by decide) ?_
      exact AW.weak _ (by exact (And.intro rfl (And.intro rfl (And.intro rfl trivial)))) (ih x3 (i2 + (1 : Int32)) hf hE)
def f_X12_ones (N : Nat) (ρ : Rh) (I : Nat → Nat → Int32) (J : Nat → Nat → Int64) (p1 : Int32) : Option (Int32) := ((f_X12_ones_4 N I J ρ p1 N (0 : Int32) (0 : Int32)).bind fun j4 => some j4)
theorem c_X12_ones {G : Gd} {d N : Nat} {K : Ah → Option Value → Prop} {ρ : Rh} {I : Nat → Nat → Int32} {J : Nat → Nat → Int64} {p1 : Int32} {o : Int32} (hs : Sh ρ) (hf : f_X12_ones N ρ I J p1 = some o) (hK : K (I, J, ρ) (some (.int o))) : AM G d 0 0 mX12_ones [.int p1] (I, J, ρ) K := by
  unfold f_X12_ones at hf
  refine AM.intro okX12_ones.2.2.2.1 (Nat.le_of_ble_eq_true rfl) [some (.int p1), none, none] rfl ?_
  refine AW.iconst (v := (0 : Int32)) dX12_ones_0 (by decide) ?_
  refine AW.istore_n (ls' := [some (.int p1), some (.int (0 : Int32)), none]) dX12_ones_1 (Nat.le_of_ble_eq_true rfl) rfl ?_
  refine AW.iconst (v := (0 : Int32)) dX12_ones_2 (by decide) ?_
  refine AW.istore_n (ls' := [some (.int p1), some (.int (0 : Int32)), some (.int (0 : Int32))]) dX12_ones_3 (Nat.le_of_ble_eq_true rfl) rfl ?_
  obtain ⟨j4, gj4, hf⟩ := ob_split hf
  refine AW.weak _ (by exact (And.intro rfl (And.intro rfl (And.intro rfl trivial)))) (l_X12_ones_4 hs N (0 : Int32) (0 : Int32) gj4 ?_)
  show AW G mX12_ones d 0 0 K 24 [none, some (.int j4), none] [] (I, J, ρ)
  refine AW.iload_n dX12_ones_24 rfl ?_
  obtain rfl := Option.some.inj hf
  exact AW.iret (st := []) dX12_ones_25 rfl hK
def f_X12_takes_25 (N : Nat) (J : Nat → Nat → Int64) (ρ : Rh) (p1 : Int32) (i4 : Int32) : Nat → (Nat → Nat → Int32) → Int32 → Option (((Nat → Nat → Int32) × (Nat → Nat → Int64) × Int32) ⊕ ((Nat → Nat → Int32)))
  | 0, _, _ => none
  | n + 1, I5, i6 => (Option.bind (f_X12_all N ρ I5 J) fun v7 => (if (v7 < i6) then some (Sum.inr I5) else (Option.bind (f_X12_ones N ρ I5 J i6) fun v8 => (if (v8 = i4) then (Option.bind (f_X12_would N ρ I5 J p1 i6) fun v9 => (if (v9.2 = (0 : Int32)) then f_X12_takes_25 N J ρ p1 i4 n v9.1 (i6 + (1 : Int32)) else some (Sum.inl (v9.1, J, i6)))) else f_X12_takes_25 N J ρ p1 i4 n I5 (i6 + (1 : Int32))))))
theorem l_X12_takes_25 {G : Gd} {d N : Nat} {K : Ah → Option Value → Prop} {J : Nat → Nat → Int64} {ρ : Rh} {p1 : Int32} {i4 : Int32} (hs : Sh ρ) {o : ((Nat → Nat → Int32) × (Nat → Nat → Int64) × Int32) ⊕ ((Nat → Nat → Int32))} : ∀ (n : Nat) (I5 : Nat → Nat → Int32) (i6 : Int32), f_X12_takes_25 N J ρ p1 i4 n I5 i6 = some o → scase o (fun r => K (r.1, r.2.1, ρ) (some (.int r.2.2))) (fun o => AW G mX12_takes (d + 5) 0 0 K 58 [some (.ref 89), some (.int p1), some (.int i4), none] [] (o, J, ρ)) → AW G mX12_takes (d + 5) 0 0 K 25 [some (.ref 89), some (.int p1), some (.int i4), some (.int i6)] [] (I5, J, ρ) := by
  intro n
  induction n with
  | zero => intro I5 i6 hf hE; rw [f_X12_takes_25.eq_1] at hf; cases hf
  | succ n ih =>
    intro I5 i6 hf hE
    rw [f_X12_takes_25.eq_2] at hf
    refine AW.iload_n dX12_takes_25 rfl ?_
    refine AW.aload_n dX12_takes_26 rfl ?_
    obtain ⟨v7, gv7, hf⟩ := ob_split hf
    refine TW.invv (as := []) (rest := [.int i6]) viX12_239_12 hs.k89 dX12_takes_27 rfl rfl (Nat.le_of_ble_eq_true rfl) (c_X12_all hs gv7 ?_)
    show AW G mX12_takes (d + 5) 0 0 K 30 [some (.ref 89), some (.int p1), some (.int i4), some (.int i6)] [.int v7, .int i6] (I5, J, ρ)
    refine AW.icmp_gt (tgt := 58) dX12_takes_30 (by decide) (fun hc => ?_) (fun hc => ?_)
    · have hf := (if_pos hc).symm.trans hf
      obtain rfl := Option.some.inj hf
      exact AW.weak _ (by exact (And.intro rfl (And.intro rfl (And.intro rfl trivial)))) hE
    · have hf := (if_neg hc).symm.trans hf
      refine AW.iload_n dX12_takes_33 rfl ?_
      obtain ⟨v8, gv8, hf⟩ := ob_split hf
      refine TW.invs (as := [.int i6]) (rest := []) stX12_275 dX12_takes_34 rfl rfl (Nat.le_of_ble_eq_true rfl) (c_X12_ones hs gv8 ?_)
      show AW G mX12_takes (d + 5) 0 0 K 37 [some (.ref 89), some (.int p1), some (.int i4), some (.int i6)] [.int v8] (I5, J, ρ)
      refine AW.iload_n dX12_takes_37 rfl ?_
      refine AW.icmp_ne (tgt := 52) dX12_takes_38 (by decide) (fun hc => ?_) (fun hc => ?_)
      · have hf := (if_neg hc).symm.trans hf
        refine AW.iinc (v := (i6 + (1 : Int32))) (ls' := [some (.ref 89), some (.int p1), some (.int i4), some (.int (i6 + (1 : Int32)))]) dX12_takes_52 rfl rfl (Nat.le_of_ble_eq_true rfl) rfl ?_
        refine AW.goto (tgt := 25) dX12_takes_55 (by decide) ?_
        exact AW.weak _ (by exact (And.intro rfl (And.intro rfl (And.intro rfl (And.intro rfl trivial))))) (ih I5 (i6 + (1 : Int32)) hf hE)
      · have hf := (if_pos hc).symm.trans hf
        refine AW.aload_n dX12_takes_41 rfl ?_
        refine AW.iload_n dX12_takes_42 rfl ?_
        refine AW.iload_n dX12_takes_43 rfl ?_
        obtain ⟨v9, gv9, hf⟩ := ob_split hf
        refine TW.invv (as := [.int p1, .int i6]) (rest := []) viX12_271_12 hs.k89 dX12_takes_44 rfl rfl (Nat.le_of_ble_eq_true rfl) (c_X12_would hs gv9 ?_)
        show AW G mX12_takes (d + 5) 0 0 K 47 [some (.ref 89), some (.int p1), some (.int i4), some (.int i6)] [.int v9.2] (v9.1, J, ρ)
        refine AW.if_eq (tgt := 52) dX12_takes_47 (by decide) (fun hc => ?_) (fun hc => ?_)
        · have hf := (if_pos hc).symm.trans hf
          refine AW.iinc (v := (i6 + (1 : Int32))) (ls' := [some (.ref 89), some (.int p1), some (.int i4), some (.int (i6 + (1 : Int32)))]) dX12_takes_52 rfl rfl (Nat.le_of_ble_eq_true rfl) rfl ?_
          refine AW.goto (tgt := 25) dX12_takes_55 (by decide) ?_
          exact AW.weak _ (by exact (And.intro rfl (And.intro rfl (And.intro rfl (And.intro rfl trivial))))) (ih v9.1 (i6 + (1 : Int32)) hf hE)
        · have hf := (if_neg hc).symm.trans hf
          refine AW.iload_n dX12_takes_50 rfl ?_
          obtain rfl := Option.some.inj hf
          exact AW.iret (st := []) dX12_takes_51 rfl hE
def f_X12_takes_18 (N : Nat) (J : Nat → Nat → Int64) (ρ : Rh) (p1 : Int32) : Nat → (Nat → Nat → Int32) → Int32 → Option (((Nat → Nat → Int32) × (Nat → Nat → Int64) × Int32) ⊕ ((Nat → Nat → Int32)))
  | 0, _, _ => none
  | n + 1, I3, i4 => (if ((3 : Int32) < i4) then some (Sum.inr I3) else ((f_X12_takes_25 N J ρ p1 i4 N I3 (1 : Int32)).bind fun j10 => scase j10 (fun r => some (Sum.inl r)) (fun j10 => f_X12_takes_18 N J ρ p1 n j10 (i4 + (1 : Int32)))))
theorem l_X12_takes_18 {G : Gd} {d N : Nat} {K : Ah → Option Value → Prop} {J : Nat → Nat → Int64} {ρ : Rh} {p1 : Int32} (hs : Sh ρ) {o : ((Nat → Nat → Int32) × (Nat → Nat → Int64) × Int32) ⊕ ((Nat → Nat → Int32))} : ∀ (n : Nat) (I3 : Nat → Nat → Int32) (i4 : Int32), f_X12_takes_18 N J ρ p1 n I3 i4 = some o → scase o (fun r => K (r.1, r.2.1, ρ) (some (.int r.2.2))) (fun o => AW G mX12_takes (d + 5) 0 0 K 64 [none, none, none, none] [] (o, J, ρ)) → AW G mX12_takes (d + 5) 0 0 K 18 [some (.ref 89), some (.int p1), some (.int i4), none] [] (I3, J, ρ) := by
  intro n
  induction n with
  | zero => intro I3 i4 hf hE; rw [f_X12_takes_18.eq_1] at hf; cases hf
  | succ n ih =>
    intro I3 i4 hf hE
    rw [f_X12_takes_18.eq_2] at hf
    refine AW.iload_n dX12_takes_18 rfl ?_
    refine AW.iconst (v := (3 : Int32)) dX12_takes_19 (by decide) ?_
    refine AW.icmp_gt (tgt := 64) dX12_takes_20 (by decide) (fun hc => ?_) (fun hc => ?_)
    · have hf := (if_pos hc).symm.trans hf
      obtain rfl := Option.some.inj hf
      exact AW.weak _ (by exact trivial) hE
    · have hf := (if_neg hc).symm.trans hf
      refine AW.iconst (v := (1 : Int32)) dX12_takes_23 (by decide) ?_
      refine AW.istore_n (ls' := [some (.ref 89), some (.int p1), some (.int i4), some (.int (1 : Int32))]) dX12_takes_24 (Nat.le_of_ble_eq_true rfl) rfl ?_
      obtain ⟨j10, gj10, hf⟩ := ob_split hf
      refine AW.weak _ (by exact (And.intro rfl (And.intro rfl (And.intro rfl (And.intro rfl trivial))))) (l_X12_takes_25 hs N I3 (1 : Int32) gj10 ?_)
      rcases j10 with r | j10
      · obtain rfl := Option.some.inj hf; exact hE
      · show AW G mX12_takes (d + 5) 0 0 K 58 [some (.ref 89), some (.int p1), some (.int i4), none] [] (j10, J, ρ)
        refine AW.iinc (v := (i4 + (1 : Int32))) (ls' := [some (.ref 89), some (.int p1), some (.int (i4 + (1 : Int32))), none]) dX12_takes_58 rfl rfl (Nat.le_of_ble_eq_true rfl) rfl ?_
        refine AW.goto (tgt := 18) dX12_takes_61 (by decide) ?_
        exact AW.weak _ (by exact (And.intro rfl (And.intro rfl (And.intro rfl trivial)))) (ih j10 (i4 + (1 : Int32)) hf hE)
def f_X12_takes (N : Nat) (ρ : Rh) (I : Nat → Nat → Int32) (J : Nat → Nat → Int64) (p1 : Int32) : Option ((Nat → Nat → Int32) × (Nat → Nat → Int64) × Int32) := (Option.bind (f_X12_isRule N ρ I J p1) fun v1 => (if (v1 = (0 : Int32)) then some (I, J, (-5 : Int32)) else (Option.bind (f_X12_keeps N ρ I J p1) fun v2 => ((f_X12_takes_18 N v2.2 ρ p1 N v2.1 (1 : Int32)).bind fun j11 => scase j11 (fun r => some r) (fun j11 => some (j11, v2.2, (-1 : Int32)))))))
theorem c_X12_takes {G : Gd} {d N : Nat} {K : Ah → Option Value → Prop} {ρ : Rh} {I : Nat → Nat → Int32} {J : Nat → Nat → Int64} {p1 : Int32} {o : (Nat → Nat → Int32) × (Nat → Nat → Int64) × Int32} (hs : Sh ρ) (hf : f_X12_takes N ρ I J p1 = some o) (hK : K (o.1, o.2.1, ρ) (some (.int o.2.2))) : AM G (d + 5) 0 0 mX12_takes [.ref 89, .int p1] (I, J, ρ) K := by
  unfold f_X12_takes at hf
  refine AM.intro okX12_takes.2.2.2.1 (Nat.le_of_ble_eq_true rfl) [some (.ref 89), some (.int p1), none, none] rfl ?_
  refine AW.aload_n dX12_takes_0 rfl ?_
  refine AW.iload_n dX12_takes_1 rfl ?_
  obtain ⟨v1, gv1, hf⟩ := ob_split hf
  refine TW.invv (as := [.int p1]) (rest := []) viX12_154_12 hs.k89 dX12_takes_2 rfl rfl (Nat.le_of_ble_eq_true rfl) (c_X12_isRule hs gv1 ?_)
  show AW G mX12_takes (d + 5) 0 0 K 5 [some (.ref 89), some (.int p1), none, none] [.int v1] (I, J, ρ)
  refine AW.if_ne (tgt := 11) dX12_takes_5 (by decide) (fun hc => ?_) (fun hc => ?_)
  · have hf := (if_neg hc).symm.trans hf
    refine AW.aload_n dX12_takes_11 rfl ?_
    refine AW.iload_n dX12_takes_12 rfl ?_
    obtain ⟨v2, gv2, hf⟩ := ob_split hf
    refine TW.invv (as := [.int p1]) (rest := []) viX12_268_12 hs.k89 dX12_takes_13 rfl rfl (Nat.le_of_ble_eq_true rfl) (c_X12_keeps hs gv2 ?_)
    show AW G mX12_takes (d + 5) 0 0 K 16 [some (.ref 89), some (.int p1), none, none] [] (v2.1, v2.2, ρ)
    refine AW.iconst (v := (1 : Int32)) dX12_takes_16 (by decide) ?_
    refine AW.istore_n (ls' := [some (.ref 89), some (.int p1), some (.int (1 : Int32)), none]) dX12_takes_17 (Nat.le_of_ble_eq_true rfl) rfl ?_
    obtain ⟨j11, gj11, hf⟩ := ob_split hf
    refine AW.weak _ (by exact (And.intro rfl (And.intro rfl (And.intro rfl trivial)))) (l_X12_takes_18 hs N v2.1 (1 : Int32) gj11 ?_)
    rcases j11 with r | j11
    · obtain rfl := Option.some.inj hf; exact hK
    · show AW G mX12_takes (d + 5) 0 0 K 64 [none, none, none, none] [] (j11, v2.2, ρ)
      refine AW.iconst (v := (-1 : Int32)) dX12_takes_64 (by decide) ?_
      obtain rfl := Option.some.inj hf
      exact AW.iret (st := []) dX12_takes_65 rfl hK
  · have hf := (if_pos hc).symm.trans hf
    refine AW.bipush (v := (-5 : Int32)) dX12_takes_8 (by decide) ?_
    obtain rfl := Option.some.inj hf
    exact AW.iret (st := []) dX12_takes_10 rfl hK
def f_X12_hid (N : Nat) (ρ : Rh) (I : Nat → Nat → Int32) (J : Nat → Nat → Int64) (p1 : Int32) (p2 : Int32) (p3 : Int32) (p4 : Int32) : Option ((Nat → Nat → Int32) × Int64) := (Option.bind (f_X12_isRule N ρ I J p1) fun v1 => (if (v1 = (0 : Int32)) then some (I, (-4611686018427387904 : Int64)) else (Option.bind (f_X12_isMan N ρ I J p2) fun v2 => (if (v2 = (0 : Int32)) then some (I, (-4611686018427387904 : Int64)) else (Option.bind (f_X12_in N ρ I J p3 (0 : Int32) (50 : Int32)) fun v3 => (if (v3 = (0 : Int32)) then some (I, (-4611686018427387904 : Int64)) else (Option.bind (f_X12_in N ρ I J p4 (0 : Int32) (1 : Int32)) fun v4 => (if (v4 = (0 : Int32)) then some (I, (-4611686018427387904 : Int64)) else (Option.bind (f_X12_goesPlain N ρ I J p1) fun v5 => (Option.bind (f_X12_homeOf N ρ v5 J p2) fun v6 => (Option.bind (f_X12_all N ρ v5 J) fun v7 => (Option.bind (f_X12_goes N ρ v5 J p1 v7 p2 p3) fun v8 => (Option.bind (f_X12_homeOf N ρ v8 J p2) fun v9 => (Option.bind (f_X12_below N ρ v8 J) fun v10 => (Option.bind (f_X12_lowest N ρ v8 J (v9 - v6) v10 p4) fun v11 => some (v8, v11))))))))))))))))
theorem c_X12_hid {G : Gd} {d N : Nat} {K : Ah → Option Value → Prop} {ρ : Rh} {I : Nat → Nat → Int32} {J : Nat → Nat → Int64} {p1 : Int32} {p2 : Int32} {p3 : Int32} {p4 : Int32} {o : (Nat → Nat → Int32) × Int64} (hs : Sh ρ) (hf : f_X12_hid N ρ I J p1 p2 p3 p4 = some o) (hK : K (o.1, J, ρ) (some (.long o.2))) : AM G (d + 4) 0 0 mX12_hid [.ref 89, .int p1, .int p2, .int p3, .int p4] (I, J, ρ) K := by
  unfold f_X12_hid at hf
  refine AM.intro okX12_hid.2.2.2.1 (Nat.le_of_ble_eq_true rfl) [some (.ref 89), some (.int p1), some (.int p2), some (.int p3), some (.int p4), none, none] rfl ?_
  refine AW.aload_n dX12_hid_0 rfl ?_
  refine AW.iload_n dX12_hid_1 rfl ?_
  obtain ⟨v1, gv1, hf⟩ := ob_split hf
  refine TW.invv (as := [.int p1]) (rest := []) viX12_154_12 hs.k89 dX12_hid_2 rfl rfl (Nat.le_of_ble_eq_true rfl) (c_X12_isRule hs gv1 ?_)
  show AW G mX12_hid (d + 4) 0 0 K 5 [some (.ref 89), some (.int p1), some (.int p2), some (.int p3), some (.int p4), none, none] [.int v1] (I, J, ρ)
  refine AW.if_eq (tgt := 36) dX12_hid_5 (by decide) (fun hc => ?_) (fun hc => ?_)
  · have hf := (if_pos hc).symm.trans hf
    refine AW.ldc2 dX12_hid_36 kcX12_251 ?_
    obtain rfl := Option.some.inj hf
    exact AW.lret (st := []) dX12_hid_39 rfl hK
  · have hf := (if_neg hc).symm.trans hf
    refine AW.aload_n dX12_hid_8 rfl ?_
    refine AW.iload_n dX12_hid_9 rfl ?_
    obtain ⟨v2, gv2, hf⟩ := ob_split hf
    refine TW.invv (as := [.int p2]) (rest := []) viX12_140_12 hs.k89 dX12_hid_10 rfl rfl (Nat.le_of_ble_eq_true rfl) (c_X12_isMan hs gv2 ?_)
    show AW G mX12_hid (d + 4) 0 0 K 13 [some (.ref 89), some (.int p1), some (.int p2), some (.int p3), some (.int p4), none, none] [.int v2] (I, J, ρ)
    refine AW.if_eq (tgt := 36) dX12_hid_13 (by decide) (fun hc => ?_) (fun hc => ?_)
    · have hf := (if_pos hc).symm.trans hf
      refine AW.ldc2 dX12_hid_36 kcX12_251 ?_
      obtain rfl := Option.some.inj hf
      exact AW.lret (st := []) dX12_hid_39 rfl hK
    · have hf := (if_neg hc).symm.trans hf
      refine AW.iload_n dX12_hid_16 rfl ?_
      refine AW.iconst (v := (0 : Int32)) dX12_hid_17 (by decide) ?_
      refine AW.bipush (v := (50 : Int32)) dX12_hid_18 (by decide) ?_
      obtain ⟨v3, gv3, hf⟩ := ob_split hf
      refine TW.invs (as := [.int p3, .int (0 : Int32), .int (50 : Int32)]) (rest := []) stX12_133 dX12_hid_20 rfl rfl (Nat.le_of_ble_eq_true rfl) (c_X12_in hs gv3 ?_)
      show AW G mX12_hid (d + 4) 0 0 K 23 [some (.ref 89), some (.int p1), some (.int p2), some (.int p3), some (.int p4), none, none] [.int v3] (I, J, ρ)
      refine AW.if_eq (tgt := 36) dX12_hid_23 (by decide) (fun hc => ?_) (fun hc => ?_)
      · have hf := (if_pos hc).symm.trans hf
        refine AW.ldc2 dX12_hid_36 kcX12_251 ?_
        obtain rfl := Option.some.inj hf
        exact AW.lret (st := []) dX12_hid_39 rfl hK
      · have hf := (if_neg hc).symm.trans hf
        refine AW.iload dX12_hid_26 rfl ?_
        refine AW.iconst (v := (0 : Int32)) dX12_hid_28 (by decide) ?_
        refine AW.iconst (v := (1 : Int32)) dX12_hid_29 (by decide) ?_
        obtain ⟨v4, gv4, hf⟩ := ob_split hf
        refine TW.invs (as := [.int p4, .int (0 : Int32), .int (1 : Int32)]) (rest := []) stX12_133 dX12_hid_30 rfl rfl (Nat.le_of_ble_eq_true rfl) (c_X12_in hs gv4 ?_)
        show AW G mX12_hid (d + 4) 0 0 K 33 [some (.ref 89), some (.int p1), some (.int p2), some (.int p3), some (.int p4), none, none] [.int v4] (I, J, ρ)
        refine AW.if_ne (tgt := 40) dX12_hid_33 (by decide) (fun hc => ?_) (fun hc => ?_)
        · have hf := (if_neg hc).symm.trans hf
          refine AW.aload_n dX12_hid_40 rfl ?_
          refine AW.iload_n dX12_hid_41 rfl ?_
          obtain ⟨v5, gv5, hf⟩ := ob_split hf
          refine TW.invv (as := [.int p1]) (rest := []) viX12_253_12 hs.k89 dX12_hid_42 rfl rfl (Nat.le_of_ble_eq_true rfl) (c_X12_goesPlain hs gv5 ?_)
          show AW G mX12_hid (d + 4) 0 0 K 45 [some (.ref 89), some (.int p1), some (.int p2), some (.int p3), some (.int p4), none, none] [] (v5, J, ρ)
          refine AW.aload_n dX12_hid_45 rfl ?_
          refine AW.iload_n dX12_hid_46 rfl ?_
          obtain ⟨v6, gv6, hf⟩ := ob_split hf
          refine TW.invv (as := [.int p2]) (rest := []) viX12_256_12 hs.k89 dX12_hid_47 rfl rfl (Nat.le_of_ble_eq_true rfl) (c_X12_homeOf hs gv6 ?_)
          show AW G mX12_hid (d + 4) 0 0 K 50 [some (.ref 89), some (.int p1), some (.int p2), some (.int p3), some (.int p4), none, none] [.long v6] (v5, J, ρ)
          refine AW.lstore (ls' := [some (.ref 89), some (.int p1), some (.int p2), some (.int p3), some (.int p4), some (.long v6), none]) dX12_hid_50 (Nat.le_of_ble_eq_true rfl) rfl ?_
          refine AW.aload_n dX12_hid_52 rfl ?_
          refine AW.iload_n dX12_hid_53 rfl ?_
          refine AW.aload_n dX12_hid_54 rfl ?_
          obtain ⟨v7, gv7, hf⟩ := ob_split hf
          refine TW.invv (as := []) (rest := [.int p1, .ref 89]) viX12_239_12 hs.k89 dX12_hid_55 rfl rfl (Nat.le_of_ble_eq_true rfl) (c_X12_all hs gv7 ?_)
          show AW G mX12_hid (d + 4) 0 0 K 58 [some (.ref 89), some (.int p1), some (.int p2), some (.int p3), some (.int p4), some (.long v6), none] [.int v7, .int p1, .ref 89] (v5, J, ρ)
          refine AW.iload_n dX12_hid_58 rfl ?_
          refine AW.iload_n dX12_hid_59 rfl ?_
          obtain ⟨v8, gv8, hf⟩ := ob_split hf
          refine TW.invv (as := [.int p1, .int v7, .int p2, .int p3]) (rest := []) viX12_242_12 hs.k89 dX12_hid_60 rfl rfl (Nat.le_of_ble_eq_true rfl) (c_X12_goes hs gv8 ?_)
          show AW G mX12_hid (d + 4) 0 0 K 63 [some (.ref 89), some (.int p1), some (.int p2), some (.int p3), some (.int p4), some (.long v6), none] [] (v8, J, ρ)
          refine AW.aload_n dX12_hid_63 rfl ?_
          refine AW.iload_n dX12_hid_64 rfl ?_
          obtain ⟨v9, gv9, hf⟩ := ob_split hf
          refine TW.invv (as := [.int p2]) (rest := []) viX12_256_12 hs.k89 dX12_hid_65 rfl rfl (Nat.le_of_ble_eq_true rfl) (c_X12_homeOf hs gv9 ?_)
          show AW G mX12_hid (d + 4) 0 0 K 68 [some (.ref 89), some (.int p1), some (.int p2), some (.int p3), some (.int p4), some (.long v6), none] [.long v9] (v8, J, ρ)
          refine AW.lload dX12_hid_68 rfl ?_
          refine AW.lsub dX12_hid_70 ?_
          refine AW.aload_n dX12_hid_71 rfl ?_
          obtain ⟨v10, gv10, hf⟩ := ob_split hf
          refine TW.invv (as := []) (rest := [.long (v9 - v6)]) viX12_248_12 hs.k89 dX12_hid_72 rfl rfl (Nat.le_of_ble_eq_true rfl) (c_X12_below hs gv10 ?_)
          show AW G mX12_hid (d + 4) 0 0 K 75 [some (.ref 89), some (.int p1), some (.int p2), some (.int p3), some (.int p4), some (.long v6), none] [.long v10, .long (v9 - v6)] (v8, J, ρ)
          refine AW.iload dX12_hid_75 rfl ?_
          obtain ⟨v11, gv11, hf⟩ := ob_split hf
          refine TW.invs (as := [.long (v9 - v6), .long v10, .int p4]) (rest := []) stX12_260 dX12_hid_77 rfl rfl (Nat.le_of_ble_eq_true rfl) (c_X12_lowest hs gv11 ?_)
          show AW G mX12_hid (d + 4) 0 0 K 80 [some (.ref 89), some (.int p1), some (.int p2), some (.int p3), some (.int p4), some (.long v6), none] [.long v11] (v8, J, ρ)
          obtain rfl := Option.some.inj hf
          exact AW.lret (st := []) dX12_hid_80 rfl hK
        · have hf := (if_pos hc).symm.trans hf
          refine AW.ldc2 dX12_hid_36 kcX12_251 ?_
          obtain rfl := Option.some.inj hf
          exact AW.lret (st := []) dX12_hid_39 rfl hK
def f_X12_judge_74 (N : Nat) (I : Nat → Nat → Int32) (J : Nat → Nat → Int64) (ρ : Rh) (p2 : Int32) (p3 : Int32) : Nat → Int32 → Option (((Nat → Nat → Int32) × Int32) ⊕ (Unit))
  | 0, _ => none
  | n + 1, i7 => (if ((I 89 0) ≤ i7) then some (Sum.inr ()) else (if ¬ ((((8 : Int32) * p2) + i7) < 0 ∨ 96 ≤ tn (((8 : Int32) * p2) + i7)) then (if ¬ ((((40 : Int32) * p3) + i7) < 0 ∨ 160 ≤ tn (((40 : Int32) * p3) + i7)) then (if ((I 101 (tn (((8 : Int32) * p2) + i7))) = (I 109 (tn (((40 : Int32) * p3) + i7)))) then f_X12_judge_74 N I J ρ p2 p3 n (i7 + (1 : Int32)) else some (Sum.inl (I, i7))) else none) else none))
theorem l_X12_judge_74 {G : Gd} {d N : Nat} {K : Ah → Option Value → Prop} {I : Nat → Nat → Int32} {J : Nat → Nat → Int64} {ρ : Rh} {p2 : Int32} {p3 : Int32} (hs : Sh ρ) {o : ((Nat → Nat → Int32) × Int32) ⊕ (Unit)} : ∀ (n : Nat) (i7 : Int32), f_X12_judge_74 N I J ρ p2 p3 n i7 = some o → scase o (fun r => K (r.1, J, ρ) (some (.int r.2))) (fun o => AW G mX12_judge (d + 4) 0 0 K 119 [none, none, none, none, none] [] (I, J, ρ)) → AW G mX12_judge (d + 4) 0 0 K 74 [some (.ref 89), none, some (.int p2), some (.int p3), some (.int i7)] [] (I, J, ρ) := by
  intro n
  induction n with
  | zero => intro i7 hf hE; rw [f_X12_judge_74.eq_1] at hf; cases hf
  | succ n ih =>
    intro i7 hf hE
    rw [f_X12_judge_74.eq_2] at hf
    refine AW.iload dX12_judge_74 rfl ?_
    refine AW.aload_n dX12_judge_76 rfl ?_
    refine TW.getI (x := (I 89 0)) fX12_130_12 hs.k89 rfl dX12_judge_77 ?_
    refine AW.icmp_ge (tgt := 119) dX12_judge_80 (by decide) (fun hc => ?_) (fun hc => ?_)
    · have hf := (if_pos hc).symm.trans hf
      obtain rfl := Option.some.inj hf
      exact AW.weak _ (by exact trivial) hE
    · have hf := (if_neg hc).symm.trans hf
      refine AW.aload_n dX12_judge_83 rfl ?_
      refine TW.getR fX12_59_12 hs.k89 (rf_some hs.r89_20) dX12_judge_84 ?_
      refine AW.bipush (v := (8 : Int32)) dX12_judge_87 (by decide) ?_
      refine AW.iload_n dX12_judge_89 rfl ?_
      refine AW.imul dX12_judge_90 ?_
      refine AW.iload dX12_judge_91 rfl ?_
      refine AW.iadd dX12_judge_93 ?_
      obtain ⟨h8, hf⟩ := gd_split hf
      refine TW.iald (x := (I 101 (tn (((8 : Int32) * p2) + i7)))) hs.k101 h8 rfl dX12_judge_94 ?_
      refine AW.aload_n dX12_judge_95 rfl ?_
      refine TW.getR fX12_83_12 hs.k89 (rf_some hs.r89_36) dX12_judge_96 ?_
      refine AW.bipush (v := (40 : Int32)) dX12_judge_99 (by decide) ?_
      refine AW.iload_n dX12_judge_101 rfl ?_
      refine AW.imul dX12_judge_102 ?_
      refine AW.iload dX12_judge_103 rfl ?_
      refine AW.iadd dX12_judge_105 ?_
      obtain ⟨h9, hf⟩ := gd_split hf
      refine TW.iald (x := (I 109 (tn (((40 : Int32) * p3) + i7)))) hs.k109 h9 rfl dX12_judge_106 ?_
      refine AW.icmp_eq (tgt := 113) dX12_judge_107 (by decide) (fun hc => ?_) (fun hc => ?_)
      · have hf := (if_pos hc).symm.trans hf
        refine AW.iinc (v := (i7 + (1 : Int32))) (ls' := [some (.ref 89), none, some (.int p2), some (.int p3), some (.int (i7 + (1 : Int32)))]) dX12_judge_113 rfl rfl (Nat.le_of_ble_eq_true rfl) rfl ?_
        refine AW.goto (tgt := 74) dX12_judge_116 (by decide) ?_
        exact AW.weak _ (by exact (And.intro rfl (And.intro rfl (And.intro rfl (And.intro rfl trivial))))) (ih (i7 + (1 : Int32)) hf hE)
      · have hf := (if_neg hc).symm.trans hf
        refine AW.iload dX12_judge_110 rfl ?_
        obtain rfl := Option.some.inj hf
        exact AW.iret (st := []) dX12_judge_112 rfl hE
def f_X12_judge (N : Nat) (ρ : Rh) (I : Nat → Nat → Int32) (J : Nat → Nat → Int64) (p1 : Int32) (p2 : Int32) (p3 : Int32) : Option ((Nat → Nat → Int32) × Int32) := (Option.bind (f_X12_isRule N ρ I J p1) fun v1 => (if (v1 = (0 : Int32)) then some (I, (-5 : Int32)) else (Option.bind (f_X12_in N ρ I J p2 (0 : Int32) ((I 89 3) - (1 : Int32))) fun v2 => (if (v2 = (0 : Int32)) then some (I, (-5 : Int32)) else (Option.bind (f_X12_in N ρ I J p3 (0 : Int32) (3 : Int32)) fun v3 => (if (v3 = (0 : Int32)) then some (I, (-2 : Int32)) else (if ¬ (p3 < 0 ∨ 4 ≤ tn p3) then (if ((I 107 (tn p3)) = (-1 : Int32)) then some (I, (-11 : Int32)) else (if ¬ (p3 < 0 ∨ 4 ≤ tn p3) then (if ((I 108 (tn p3)) = (I 89 0)) then (Option.bind (f_X12_goesPlain N ρ I J p1) fun v6 => ((f_X12_judge_74 N v6 J ρ p2 p3 N (0 : Int32)).bind fun j10 => scase j10 (fun r => some r) (fun j10 => some (v6, (-1 : Int32))))) else some (I, (-2 : Int32))) else none)) else none)))))))
theorem c_X12_judge {G : Gd} {d N : Nat} {K : Ah → Option Value → Prop} {ρ : Rh} {I : Nat → Nat → Int32} {J : Nat → Nat → Int64} {p1 : Int32} {p2 : Int32} {p3 : Int32} {o : (Nat → Nat → Int32) × Int32} (hs : Sh ρ) (hf : f_X12_judge N ρ I J p1 p2 p3 = some o) (hK : K (o.1, J, ρ) (some (.int o.2))) : AM G (d + 4) 0 0 mX12_judge [.ref 89, .int p1, .int p2, .int p3] (I, J, ρ) K := by
  unfold f_X12_judge at hf
  refine AM.intro okX12_judge.2.2.2.1 (Nat.le_of_ble_eq_true rfl) [some (.ref 89), some (.int p1), some (.int p2), some (.int p3), none] rfl ?_
  refine AW.aload_n dX12_judge_0 rfl ?_
  refine AW.iload_n dX12_judge_1 rfl ?_
  obtain ⟨v1, gv1, hf⟩ := ob_split hf
  refine TW.invv (as := [.int p1]) (rest := []) viX12_154_12 hs.k89 dX12_judge_2 rfl rfl (Nat.le_of_ble_eq_true rfl) (c_X12_isRule hs gv1 ?_)
  show AW G mX12_judge (d + 4) 0 0 K 5 [some (.ref 89), some (.int p1), some (.int p2), some (.int p3), none] [.int v1] (I, J, ρ)
  refine AW.if_eq (tgt := 22) dX12_judge_5 (by decide) (fun hc => ?_) (fun hc => ?_)
  · have hf := (if_pos hc).symm.trans hf
    refine AW.bipush (v := (-5 : Int32)) dX12_judge_22 (by decide) ?_
    obtain rfl := Option.some.inj hf
    exact AW.iret (st := []) dX12_judge_24 rfl hK
  · have hf := (if_neg hc).symm.trans hf
    refine AW.iload_n dX12_judge_8 rfl ?_
    refine AW.iconst (v := (0 : Int32)) dX12_judge_9 (by decide) ?_
    refine AW.aload_n dX12_judge_10 rfl ?_
    refine TW.getI (x := (I 89 3)) fX12_16_12 hs.k89 rfl dX12_judge_11 ?_
    refine AW.iconst (v := (1 : Int32)) dX12_judge_14 (by decide) ?_
    refine AW.isub dX12_judge_15 ?_
    obtain ⟨v2, gv2, hf⟩ := ob_split hf
    refine TW.invs (as := [.int p2, .int (0 : Int32), .int ((I 89 3) - (1 : Int32))]) (rest := []) stX12_133 dX12_judge_16 rfl rfl (Nat.le_of_ble_eq_true rfl) (c_X12_in hs gv2 ?_)
    show AW G mX12_judge (d + 4) 0 0 K 19 [some (.ref 89), some (.int p1), some (.int p2), some (.int p3), none] [.int v2] (I, J, ρ)
    refine AW.if_ne (tgt := 25) dX12_judge_19 (by decide) (fun hc => ?_) (fun hc => ?_)
    · have hf := (if_neg hc).symm.trans hf
      refine AW.iload_n dX12_judge_25 rfl ?_
      refine AW.iconst (v := (0 : Int32)) dX12_judge_26 (by decide) ?_
      refine AW.iconst (v := (3 : Int32)) dX12_judge_27 (by decide) ?_
      obtain ⟨v3, gv3, hf⟩ := ob_split hf
      refine TW.invs (as := [.int p3, .int (0 : Int32), .int (3 : Int32)]) (rest := []) stX12_133 dX12_judge_28 rfl rfl (Nat.le_of_ble_eq_true rfl) (c_X12_in hs gv3 ?_)
      show AW G mX12_judge (d + 4) 0 0 K 31 [some (.ref 89), some (.int p1), some (.int p2), some (.int p3), none] [.int v3] (I, J, ρ)
      refine AW.if_ne (tgt := 37) dX12_judge_31 (by decide) (fun hc => ?_) (fun hc => ?_)
      · have hf := (if_neg hc).symm.trans hf
        refine AW.aload_n dX12_judge_37 rfl ?_
        refine TW.getR fX12_77_12 hs.k89 (rf_some hs.r89_34) dX12_judge_38 ?_
        refine AW.iload_n dX12_judge_41 rfl ?_
        obtain ⟨h4, hf⟩ := gd_split hf
        refine TW.iald (x := (I 107 (tn p3))) hs.k107 h4 rfl dX12_judge_42 ?_
        refine AW.iconst (v := (-1 : Int32)) dX12_judge_43 (by decide) ?_
        refine AW.icmp_ne (tgt := 50) dX12_judge_44 (by decide) (fun hc => ?_) (fun hc => ?_)
        · have hf := (if_neg hc).symm.trans hf
          refine AW.aload_n dX12_judge_50 rfl ?_
          refine TW.getR fX12_80_12 hs.k89 (rf_some hs.r89_35) dX12_judge_51 ?_
          refine AW.iload_n dX12_judge_54 rfl ?_
          obtain ⟨h5, hf⟩ := gd_split hf
          refine TW.iald (x := (I 108 (tn p3))) hs.k108 h5 rfl dX12_judge_55 ?_
          refine AW.aload_n dX12_judge_56 rfl ?_
          refine TW.getI (x := (I 89 0)) fX12_130_12 hs.k89 rfl dX12_judge_57 ?_
          refine AW.icmp_eq (tgt := 66) dX12_judge_60 (by decide) (fun hc => ?_) (fun hc => ?_)
          · have hf := (if_pos hc).symm.trans hf
            refine AW.aload_n dX12_judge_66 rfl ?_
            refine AW.iload_n dX12_judge_67 rfl ?_
            obtain ⟨v6, gv6, hf⟩ := ob_split hf
            refine TW.invv (as := [.int p1]) (rest := []) viX12_253_12 hs.k89 dX12_judge_68 rfl rfl (Nat.le_of_ble_eq_true rfl) (c_X12_goesPlain hs gv6 ?_)
            show AW G mX12_judge (d + 4) 0 0 K 71 [some (.ref 89), some (.int p1), some (.int p2), some (.int p3), none] [] (v6, J, ρ)
            refine AW.iconst (v := (0 : Int32)) dX12_judge_71 (by decide) ?_
            refine AW.istore (ls' := [some (.ref 89), some (.int p1), some (.int p2), some (.int p3), some (.int (0 : Int32))]) dX12_judge_72 (Nat.le_of_ble_eq_true rfl) rfl ?_
            obtain ⟨j10, gj10, hf⟩ := ob_split hf
            refine AW.weak _ (by exact (And.intro rfl (And.intro rfl (And.intro rfl (And.intro rfl trivial))))) (l_X12_judge_74 hs N (0 : Int32) gj10 ?_)
            rcases j10 with r | j10
            · obtain rfl := Option.some.inj hf; exact hK
            · show AW G mX12_judge (d + 4) 0 0 K 119 [none, none, none, none, none] [] (v6, J, ρ)
              refine AW.iconst (v := (-1 : Int32)) dX12_judge_119 (by decide) ?_
              obtain rfl := Option.some.inj hf
              exact AW.iret (st := []) dX12_judge_120 rfl hK
          · have hf := (if_neg hc).symm.trans hf
            refine AW.bipush (v := (-2 : Int32)) dX12_judge_63 (by decide) ?_
            obtain rfl := Option.some.inj hf
            exact AW.iret (st := []) dX12_judge_65 rfl hK
        · have hf := (if_pos hc).symm.trans hf
          refine AW.bipush (v := (-11 : Int32)) dX12_judge_47 (by decide) ?_
          obtain rfl := Option.some.inj hf
          exact AW.iret (st := []) dX12_judge_49 rfl hK
      · have hf := (if_pos hc).symm.trans hf
        refine AW.bipush (v := (-2 : Int32)) dX12_judge_34 (by decide) ?_
        obtain rfl := Option.some.inj hf
        exact AW.iret (st := []) dX12_judge_36 rfl hK
    · have hf := (if_pos hc).symm.trans hf
      refine AW.bipush (v := (-5 : Int32)) dX12_judge_22 (by decide) ?_
      obtain rfl := Option.some.inj hf
      exact AW.iret (st := []) dX12_judge_24 rfl hK
