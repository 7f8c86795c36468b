/-! ===== methods 14.model 5 ===== -/
def f_X12_drinkers_5 (N : Nat) (I : Nat → Nat → Int32) (J : Nat → Nat → Int64) (ρ : Rh) (p1 : Int32) (p2 : Int32) : Nat → Int32 → Int32 → Option (Int32)
  | 0, _, _ => none
  | n + 1, i1, i2 => (if ((I 89 0) ≤ i2) then some i1 else (((if (((p2 >>> (i2 &&& 31)) &&& (1 : Int32)) = (1 : Int32)) then (if ¬ ((((8 : Int32) * p1) + i2) < 0 ∨ 104 ≤ tn (((8 : Int32) * p1) + i2)) then (if ((I 100 (tn (((8 : Int32) * p1) + i2))) ≤ (0 : Int32)) then some (0 : Int32) else some (1 : Int32)) else none) else some (0 : Int32)) : Option (Int32)).bind fun j4 => f_X12_drinkers_5 N I J ρ p1 p2 n (i1 + j4) (i2 + (1 : Int32))))
theorem l_X12_drinkers_5 {G : Gd} {d N : Nat} {K : Ah → Option Value → Prop} {I : Nat → Nat → Int32} {J : Nat → Nat → Int64} {ρ : Rh} {p1 : Int32} {p2 : Int32} (hs : Sh ρ) {o : Int32} : ∀ (n : Nat) (i1 : Int32) (i2 : Int32), f_X12_drinkers_5 N I J ρ p1 p2 n i1 i2 = some o → AW G mX12_drinkers d 0 0 K 53 [none, none, none, some (.int o), none] [] (I, J, ρ) → AW G mX12_drinkers d 0 0 K 5 [some (.ref 89), some (.int p1), some (.int p2), some (.int i1), some (.int i2)] [] (I, J, ρ) := by
  intro n
  induction n with
  | zero => intro i1 i2 hf hE; rw [f_X12_drinkers_5.eq_1] at hf; cases hf
  | succ n ih =>
    intro i1 i2 hf hE
    rw [f_X12_drinkers_5.eq_2] at hf
    refine AW.iload dX12_drinkers_5 rfl ?_
    refine AW.aload_n dX12_drinkers_7 rfl ?_
    refine TW.getI (x := (I 89 0)) fX12_130_12 hs.k89 rfl dX12_drinkers_8 ?_
    refine AW.icmp_ge (tgt := 53) dX12_drinkers_11 (by decide) (fun hc => ?_) (fun hc => ?_)
    · have hf := (if_pos hc).symm.trans hf
      obtain rfl := Option.some.inj hf
      exact AW.weak _ (by exact (And.intro rfl trivial)) hE
    · have hf := (if_neg hc).symm.trans hf
      refine AW.iload_n dX12_drinkers_14 rfl ?_
      refine AW.iload_n dX12_drinkers_15 rfl ?_
      refine AW.iload dX12_drinkers_16 rfl ?_
      refine AW.ishr dX12_drinkers_18 ?_
      refine AW.iconst (v := (1 : Int32)) dX12_drinkers_19 (by decide) ?_
      refine AW.iand dX12_drinkers_20 ?_
      refine AW.iconst (v := (1 : Int32)) dX12_drinkers_21 (by decide) ?_
      obtain ⟨j4, gj4, hf⟩ := ob_split hf
      have Kj4 : AW G mX12_drinkers d 0 0 K 45 [some (.ref 89), some (.int p1), some (.int p2), none, some (.int i2)] [.int j4, .int i1] (I, J, ρ) := by
        refine AW.iadd dX12_drinkers_45 ?_
        refine AW.istore_n (ls' := [some (.ref 89), some (.int p1), some (.int p2), some (.int (i1 + j4)), some (.int i2)]) dX12_drinkers_46 (Nat.le_of_ble_eq_true rfl) rfl ?_
        refine AW.iinc (v := (i2 + (1 : Int32))) (ls' := [some (.ref 89), some (.int p1), some (.int p2), some (.int (i1 + j4)), some (.int (i2 + (1 : Int32)))]) dX12_drinkers_47 rfl rfl (Nat.le_of_ble_eq_true rfl) rfl ?_
        refine AW.goto (tgt := 5) dX12_drinkers_50 (by decide) ?_
        exact AW.weak _ (by exact (And.intro rfl (And.intro rfl (And.intro rfl (And.intro rfl (And.intro rfl trivial)))))) (ih (i1 + j4) (i2 + (1 : Int32)) hf hE)
      clear hf; have hf := gj4; clear gj4
      refine AW.icmp_ne (tgt := 44) dX12_drinkers_22 (by decide) (fun hc => ?_) (fun hc => ?_)
      · have hf := (if_neg hc).symm.trans hf
        refine AW.iconst (v := (0 : Int32)) dX12_drinkers_44 (by decide) ?_
        obtain rfl := Option.some.inj hf
        exact AW.weak _ (by exact (And.intro rfl (And.intro rfl (And.intro rfl (And.intro rfl trivial))))) Kj4
      · have hf := (if_pos hc).symm.trans hf
        refine AW.aload_n dX12_drinkers_25 rfl ?_
        refine TW.getR fX12_56_12 hs.k89 (rf_some hs.r89_19) dX12_drinkers_26 ?_
        refine AW.bipush (v := (8 : Int32)) dX12_drinkers_29 (by decide) ?_
        refine AW.iload_n dX12_drinkers_31 rfl ?_
        refine AW.imul dX12_drinkers_32 ?_
        refine AW.iload dX12_drinkers_33 rfl ?_
        refine AW.iadd dX12_drinkers_35 ?_
        obtain ⟨h3, hf⟩ := gd_split hf
        refine TW.iald (x := (I 100 (tn (((8 : Int32) * p1) + i2)))) hs.k100 h3 rfl dX12_drinkers_36 ?_
        refine AW.if_le (tgt := 44) dX12_drinkers_37 (by decide) (fun hc => ?_) (fun hc => ?_)
        · have hf := (if_pos hc).symm.trans hf
          refine AW.iconst (v := (0 : Int32)) dX12_drinkers_44 (by decide) ?_
          obtain rfl := Option.some.inj hf
          exact AW.weak _ (by exact (And.intro rfl (And.intro rfl (And.intro rfl (And.intro rfl trivial))))) Kj4
        · have hf := (if_neg hc).symm.trans hf
          refine AW.iconst (v := (1 : Int32)) dX12_drinkers_40 (by decide) ?_
          refine AW.goto (tgt := 45) dX12_drinkers_41 (by decide) ?_
          obtain rfl := Option.some.inj hf
          exact AW.weak _ (by exact (And.intro rfl (And.intro rfl (And.intro rfl (And.intro rfl trivial))))) Kj4
def f_X12_drinkers (N : Nat) (ρ : Rh) (I : Nat → Nat → Int32) (J : Nat → Nat → Int64) (p1 : Int32) (p2 : Int32) : Option (Int32) := ((f_X12_drinkers_5 N I J ρ p1 p2 N (0 : Int32) (0 : Int32)).bind fun j5 => some j5)
theorem c_X12_drinkers {G : Gd} {d N : Nat} {K : Ah → Option Value → Prop} {ρ : Rh} {I : Nat → Nat → Int32} {J : Nat → Nat → Int64} {p1 : Int32} {p2 : Int32} {o : Int32} (hs : Sh ρ) (hf : f_X12_drinkers N ρ I J p1 p2 = some o) (hK : K (I, J, ρ) (some (.int o))) : AM G d 0 0 mX12_drinkers [.ref 89, .int p1, .int p2] (I, J, ρ) K := by
  unfold f_X12_drinkers at hf
  refine AM.intro okX12_drinkers.2.2.2.1 (Nat.le_of_ble_eq_true rfl) [some (.ref 89), some (.int p1), some (.int p2), none, none] rfl ?_
  refine AW.iconst (v := (0 : Int32)) dX12_drinkers_0 (by decide) ?_
  refine AW.istore_n (ls' := [some (.ref 89), some (.int p1), some (.int p2), some (.int (0 : Int32)), none]) dX12_drinkers_1 (Nat.le_of_ble_eq_true rfl) rfl ?_
  refine AW.iconst (v := (0 : Int32)) dX12_drinkers_2 (by decide) ?_
  refine AW.istore (ls' := [some (.ref 89), some (.int p1), some (.int p2), some (.int (0 : Int32)), some (.int (0 : Int32))]) dX12_drinkers_3 (Nat.le_of_ble_eq_true rfl) rfl ?_
  obtain ⟨j5, gj5, hf⟩ := ob_split hf
  refine AW.weak _ (by exact (And.intro rfl (And.intro rfl (And.intro rfl (And.intro rfl (And.intro rfl trivial)))))) (l_X12_drinkers_5 hs N (0 : Int32) (0 : Int32) gj5 ?_)
  show AW G mX12_drinkers d 0 0 K 53 [none, none, none, some (.int j5), none] [] (I, J, ρ)
  refine AW.iload_n dX12_drinkers_53 rfl ?_
  obtain rfl := Option.some.inj hf
  exact AW.iret (st := []) dX12_drinkers_54 rfl hK
def f_X12_living_4 (N : Nat) (I : Nat → Nat → Int32) (J : Nat → Nat → Int64) (ρ : Rh) (p1 : Int32) : Nat → Int32 → Int32 → Option (Int32)
  | 0, _, _ => none
  | n + 1, i1, i2 => (if ((I 89 0) ≤ i2) then some i1 else (if ¬ ((((8 : Int32) * p1) + i2) < 0 ∨ 104 ≤ tn (((8 : Int32) * p1) + i2)) then (((if ((I 100 (tn (((8 : Int32) * p1) + i2))) ≤ (0 : Int32)) then some (0 : Int32) else some (1 : Int32)) : Option (Int32)).bind fun j4 => f_X12_living_4 N I J ρ p1 n (i1 + j4) (i2 + (1 : Int32))) else none))
theorem l_X12_living_4 {G : Gd} {d N : Nat} {K : Ah → Option Value → Prop} {I : Nat → Nat → Int32} {J : Nat → Nat → Int64} {ρ : Rh} {p1 : Int32} (hs : Sh ρ) {o : Int32} : ∀ (n : Nat) (i1 : Int32) (i2 : Int32), f_X12_living_4 N I J ρ p1 n i1 i2 = some o → AW G mX12_living d 0 0 K 40 [none, none, some (.int o), none] [] (I, J, ρ) → AW G mX12_living d 0 0 K 4 [some (.ref 89), some (.int p1), some (.int i1), some (.int i2)] [] (I, J, ρ) := by
  intro n
  induction n with
  | zero => intro i1 i2 hf hE; rw [f_X12_living_4.eq_1] at hf; cases hf
  | succ n ih =>
    intro i1 i2 hf hE
    rw [f_X12_living_4.eq_2] at hf
    refine AW.iload_n dX12_living_4 rfl ?_
    refine AW.aload_n dX12_living_5 rfl ?_
    refine TW.getI (x := (I 89 0)) fX12_130_12 hs.k89 rfl dX12_living_6 ?_
    refine AW.icmp_ge (tgt := 40) dX12_living_9 (by decide) (fun hc => ?_) (fun hc => ?_)
    · have hf := (if_pos hc).symm.trans hf
      obtain rfl := Option.some.inj hf
      exact AW.weak _ (by exact (And.intro rfl trivial)) hE
    · have hf := (if_neg hc).symm.trans hf
      refine AW.iload_n dX12_living_12 rfl ?_
      refine AW.aload_n dX12_living_13 rfl ?_
      refine TW.getR fX12_56_12 hs.k89 (rf_some hs.r89_19) dX12_living_14 ?_
      refine AW.bipush (v := (8 : Int32)) dX12_living_17 (by decide) ?_
      refine AW.iload_n dX12_living_19 rfl ?_
      refine AW.imul dX12_living_20 ?_
      refine AW.iload_n dX12_living_21 rfl ?_
      refine AW.iadd dX12_living_22 ?_
      obtain ⟨h3, hf⟩ := gd_split hf
      refine TW.iald (x := (I 100 (tn (((8 : Int32) * p1) + i2)))) hs.k100 h3 rfl dX12_living_23 ?_
      obtain ⟨j4, gj4, hf⟩ := ob_split hf
      have Kj4 : AW G mX12_living d 0 0 K 32 [some (.ref 89), some (.int p1), none, some (.int i2)] [.int j4, .int i1] (I, J, ρ) := by
        refine AW.iadd dX12_living_32 ?_
        refine AW.istore_n (ls' := [some (.ref 89), some (.int p1), some (.int (i1 + j4)), some (.int i2)]) dX12_living_33 (Nat.le_of_ble_eq_true rfl) rfl ?_
        refine AW.iinc (v := (i2 + (1 : Int32))) (ls' := [some (.ref 89), some (.int p1), some (.int (i1 + j4)), some (.int (i2 + (1 : Int32)))]) dX12_living_34 rfl rfl (Nat.le_of_ble_eq_true rfl) rfl ?_
        refine AW.goto (tgt := 4) dX12_living_37 (by decide) ?_
        exact AW.weak _ (by exact (And.intro rfl (And.intro rfl (And.intro rfl (And.intro rfl trivial))))) (ih (i1 + j4) (i2 + (1 : Int32)) hf hE)
      clear hf; have hf := gj4; clear gj4
      refine AW.if_le (tgt := 31) dX12_living_24 (by decide) (fun hc => ?_) (fun hc => ?_)
      · have hf := (if_pos hc).symm.trans hf
        refine AW.iconst (v := (0 : Int32)) dX12_living_31 (by decide) ?_
        obtain rfl := Option.some.inj hf
        exact AW.weak _ (by exact (And.intro rfl (And.intro rfl (And.intro rfl trivial)))) Kj4
      · have hf := (if_neg hc).symm.trans hf
        refine AW.iconst (v := (1 : Int32)) dX12_living_27 (by decide) ?_
        refine AW.goto (tgt := 32) dX12_living_28 (by decide) ?_
        obtain rfl := Option.some.inj hf
        exact AW.weak _ (by exact (And.intro rfl (And.intro rfl (And.intro rfl trivial)))) Kj4
def f_X12_living (N : Nat) (ρ : Rh) (I : Nat → Nat → Int32) (J : Nat → Nat → Int64) (p1 : Int32) : Option (Int32) := ((f_X12_living_4 N I J ρ p1 N (0 : Int32) (0 : Int32)).bind fun j5 => some j5)
theorem c_X12_living {G : Gd} {d N : Nat} {K : Ah → Option Value → Prop} {ρ : Rh} {I : Nat → Nat → Int32} {J : Nat → Nat → Int64} {p1 : Int32} {o : Int32} (hs : Sh ρ) (hf : f_X12_living N ρ I J p1 = some o) (hK : K (I, J, ρ) (some (.int o))) : AM G d 0 0 mX12_living [.ref 89, .int p1] (I, J, ρ) K := by
  unfold f_X12_living at hf
  refine AM.intro okX12_living.2.2.2.1 (Nat.le_of_ble_eq_true rfl) [some (.ref 89), some (.int p1), none, none] rfl ?_
  refine AW.iconst (v := (0 : Int32)) dX12_living_0 (by decide) ?_
  refine AW.istore_n (ls' := [some (.ref 89), some (.int p1), some (.int (0 : Int32)), none]) dX12_living_1 (Nat.le_of_ble_eq_true rfl) rfl ?_
  refine AW.iconst (v := (0 : Int32)) dX12_living_2 (by decide) ?_
  refine AW.istore_n (ls' := [some (.ref 89), some (.int p1), some (.int (0 : Int32)), some (.int (0 : Int32))]) dX12_living_3 (Nat.le_of_ble_eq_true rfl) rfl ?_
  obtain ⟨j5, gj5, hf⟩ := ob_split hf
  refine AW.weak _ (by exact (And.intro rfl (And.intro rfl (And.intro rfl (And.intro rfl trivial))))) (l_X12_living_4 hs N (0 : Int32) (0 : Int32) gj5 ?_)
  show AW G mX12_living d 0 0 K 40 [none, none, some (.int j5), none] [] (I, J, ρ)
  refine AW.iload_n dX12_living_40 rfl ?_
  obtain rfl := Option.some.inj hf
  exact AW.iret (st := []) dX12_living_41 rfl hK
def f_X12_goes_7 (N : Nat) (J : Nat → Nat → Int64) (ρ : Rh) (p1 : Int32) (p2 : Int32) (p3 : Int32) (p4 : Int32) : Nat → (Nat → Nat → Int32) → Int32 → Option ((Nat → Nat → Int32))
  | 0, _, _ => none
  | n + 1, I1, i2 => (if ((8 : Int32) ≤ i2) then some I1 else (((if ((I1 89 0) ≤ i2) then some (0 : Int32) else (if ¬ (i2 < 0 ∨ 8 ≤ tn i2) then some (I1 90 (tn i2)) else none)) : Option (Int32)).bind fun j4 => (if ¬ (i2 < 0 ∨ 104 ≤ tn i2) then f_X12_goes_7 N J ρ p1 p2 p3 p4 n (u2 I1 100 (tn i2) j4) (i2 + (1 : Int32)) else none)))
theorem l_X12_goes_7 {G : Gd} {d N : Nat} {K : Ah → Option Value → Prop} {J : Nat → Nat → Int64} {ρ : Rh} {p1 : Int32} {p2 : Int32} {p3 : Int32} {p4 : Int32} (hs : Sh ρ) {o : (Nat → Nat → Int32)} : ∀ (n : Nat) (I1 : Nat → Nat → Int32) (i2 : Int32), f_X12_goes_7 N J ρ p1 p2 p3 p4 n I1 i2 = some o → AW G mX12_goes (d + 2) 0 0 K 47 [some (.ref 89), some (.int p1), some (.int p2), some (.int p3), none, some (.int p4), none, none, none, none, none, none, none, none, none, none, none, none, none] [] (o, J, ρ) → AW G mX12_goes (d + 2) 0 0 K 7 [some (.ref 89), some (.int p1), some (.int p2), some (.int p3), none, some (.int p4), some (.int i2), none, none, none, none, none, none, none, none, none, none, none, none] [] (I1, J, ρ) := by
  intro n
  induction n with
  | zero => intro I1 i2 hf hE; rw [f_X12_goes_7.eq_1] at hf; cases hf
  | succ n ih =>
    intro I1 i2 hf hE
    rw [f_X12_goes_7.eq_2] at hf
    refine AW.iload dX12_goes_7 rfl ?_
    refine AW.bipush (v := (8 : Int32)) dX12_goes_9 (by decide) ?_
    refine AW.icmp_ge (tgt := 47) dX12_goes_11 (by decide) (fun hc => ?_) (fun hc => ?_)
    · have hf := (if_pos hc).symm.trans hf
      obtain rfl := Option.some.inj hf
      exact AW.weak _ (by exact (And.intro rfl (And.intro rfl (And.intro rfl (And.intro rfl (And.intro rfl trivial)))))) hE
    · have hf := (if_neg hc).symm.trans hf
      refine AW.aload_n dX12_goes_14 rfl ?_
      refine TW.getR fX12_56_12 hs.k89 (rf_some hs.r89_19) dX12_goes_15 ?_
      refine AW.iload dX12_goes_18 rfl ?_
      refine AW.iload dX12_goes_20 rfl ?_
      refine AW.aload_n dX12_goes_22 rfl ?_
      refine TW.getI (x := (I1 89 0)) fX12_130_12 hs.k89 rfl dX12_goes_23 ?_
      obtain ⟨j4, gj4, hf⟩ := ob_split hf
      have Kj4 : AW G mX12_goes (d + 2) 0 0 K 40 [some (.ref 89), some (.int p1), some (.int p2), some (.int p3), none, some (.int p4), some (.int i2), none, none, none, none, none, none, none, none, none, none, none, none] [.int j4, .int i2, .ref 100] (I1, J, ρ) := by
        obtain ⟨h5, hf⟩ := gd_split hf
        refine TW.iast hs.k100 h5 dX12_goes_40 ?_
        show AW G mX12_goes (d + 2) 0 0 K 41 [some (.ref 89), some (.int p1), some (.int p2), some (.int p3), none, some (.int p4), some (.int i2), none, none, none, none, none, none, none, none, none, none, none, none] [] ((u2 I1 100 (tn i2) j4), J, ρ)
        refine AW.iinc (v := (i2 + (1 : Int32))) (ls' := [some (.ref 89), some (.int p1), some (.int p2), some (.int p3), none, some (.int p4), some (.int (i2 + (1 : Int32))), none, none, none, none, none, none, none, none, none, none, none, none]) dX12_goes_41 rfl rfl (Nat.le_of_ble_eq_true rfl) rfl ?_
        refine AW.goto (tgt := 7) dX12_goes_44 (by decide) ?_
        exact AW.weak _ (by exact (And.intro rfl (And.intro rfl (And.intro rfl (And.intro rfl (And.intro rfl (And.intro rfl trivial))))))) (ih (u2 I1 100 (tn i2) j4) (i2 + (1 : Int32)) hf hE)
      clear hf; have hf := gj4; clear gj4
      refine AW.icmp_ge (tgt := 39) dX12_goes_26 (by decide) (fun hc => ?_) (fun hc => ?_)
      · have hf := (if_pos hc).symm.trans hf
        refine AW.iconst (v := (0 : Int32)) dX12_goes_39 (by decide) ?_
        obtain rfl := Option.some.inj hf
        exact AW.weak _ (by exact (And.intro rfl (And.intro rfl (And.intro rfl (And.intro rfl (And.intro rfl (And.intro rfl trivial))))))) Kj4
      · have hf := (if_neg hc).symm.trans hf
        refine AW.aload_n dX12_goes_29 rfl ?_
        refine TW.getR fX12_7_12 hs.k89 (rf_some hs.r89_1) dX12_goes_30 ?_
        refine AW.iload dX12_goes_33 rfl ?_
        obtain ⟨h3, hf⟩ := gd_split hf
        refine TW.iald (x := (I1 90 (tn i2))) hs.k90 h3 rfl dX12_goes_35 ?_
        refine AW.goto (tgt := 40) dX12_goes_36 (by decide) ?_
        obtain rfl := Option.some.inj hf
        exact AW.weak _ (by exact (And.intro rfl (And.intro rfl (And.intro rfl (And.intro rfl (And.intro rfl (And.intro rfl trivial))))))) Kj4
def f_X12_goes_179 (N : Nat) (J : Nat → Nat → Int64) (ρ : Rh) (p1 : Int32) (p2 : Int32) (p3 : Int32) (i9 : Int32) (j11 : Int32) (v17 : Int32) : Nat → (Nat → Nat → Int32) → Int32 → Int32 → Int32 → Int32 → Int32 → Int32 → Option ((Nat → Nat → Int32) × Int32 × Int32 × Int32)
  | 0, _, _, _, _, _, _, _ => none
  | n + 1, I18, i19, i20, i21, i22, i23, i24 => (if ((I18 89 0) ≤ i24) then some (I18, i19, i20, i21) else (if ¬ ((((8 : Int32) * i9) + i24) < 0 ∨ 104 ≤ tn (((8 : Int32) * i9) + i24)) then (bnd (I18 100 (tn (((8 : Int32) * i9) + i24))) fun x26 => (((if (j11 = (0 : Int32)) then some (0 : Int32) else (if (x26 ≤ (0 : Int32)) then some (0 : Int32) else (if (((p2 >>> (i24 &&& 31)) &&& (1 : Int32)) = (1 : Int32)) then some (1 : Int32) else some (0 : Int32)))) : Option (Int32)).bind fun j27 => (((if (j27 = (0 : Int32)) then some (0 : Int32) else (Option.bind (f_X12_share N ρ I18 J p1 i24 i9 i23 v17) fun v28 => some v28)) : Option (Int32)).bind fun j29 => (((if (i22 ≤ j29) then some i22 else some j29) : Option (Int32)).bind fun j30 => (((if (i20 ≤ j30) then some i20 else some j30) : Option (Int32)).bind fun j31 => (((if (j27 = (0 : Int32)) then some (0 : Int32) else some (1 : Int32)) : Option (Int32)).bind fun j32 => (if ¬ ((((8 : Int32) * i9) + i24) < 0 ∨ 96 ≤ tn (((8 : Int32) * i9) + i24)) then (((if (j11 = (0 : Int32)) then some (i19, i21, x26, (u2 I18 101 (tn (((8 : Int32) * i9) + i24)) j31)) else (if (x26 ≤ (0 : Int32)) then some (i19, i21, x26, (u2 I18 101 (tn (((8 : Int32) * i9) + i24)) j31)) else (if ¬ (i24 < 0 ∨ 8 ≤ tn i24) then (if ¬ (p1 < 0 ∨ 8 ≤ tn p1) then (Option.bind (f_X12_worth N ρ (u2 (u2 (u2 (u2 (u2 (u2 (u2 I18 101 (tn (((8 : Int32) * i9) + i24)) j31) 113 0 x26) 113 1 (I18 91 (tn i24))) 113 2 i9) 113 3 j31) 113 4 v17) 113 5 (I18 95 (tn p1))) J (1 : Int32) (99 : Int32)) fun v36 => (((if (i24 = p3) then (if (i19 ≤ (0 : Int32)) then some (0 : Int32) else some (1 : Int32)) else some (0 : Int32)) : Option (Int32)).bind fun j37 => (Option.bind (f_X12_worth N ρ v36.1 J (0 : Int32) (20 : Int32)) fun v38 => (bnd (((x26 + j31) + j37) - v38.2) fun x39 => (((if ((0 : Int32) ≤ x39) then (if (x39 ≤ (99 : Int32)) then some x39 else some (99 : Int32)) else some (0 : Int32)) : Option (Int32)).bind fun j40 => some ((i19 - j37), (i21 + v36.2), j40, v38.1)))))) else none) else none))) : Option (Int32 × Int32 × Int32 × (Nat → Nat → Int32))).bind fun j41 => (if ¬ (((((8 : Int32) * i9) + (8 : Int32)) + i24) < 0 ∨ 104 ≤ tn ((((8 : Int32) * i9) + (8 : Int32)) + i24)) then f_X12_goes_179 N J ρ p1 p2 p3 i9 j11 v17 n (u2 j41.2.2.2 100 (tn ((((8 : Int32) * i9) + (8 : Int32)) + i24)) j41.2.2.1) j41.1 (i20 - j31) j41.2.1 (i22 - j31) (i23 + j32) (i24 + (1 : Int32)) else none)) else none))))))) else none))
theorem l_X12_goes_179 {G : Gd} {d N : Nat} {K : Ah → Option Value → Prop} {J : Nat → Nat → Int64} {ρ : Rh} {p1 : Int32} {p2 : Int32} {p3 : Int32} {i9 : Int32} {j11 : Int32} {v17 : Int32} (hs : Sh ρ) {o : (Nat → Nat → Int32) × Int32 × Int32 × Int32} : ∀ (n : Nat) (I18 : Nat → Nat → Int32) (i19 : Int32) (i20 : Int32) (i21 : Int32) (i22 : Int32) (i23 : Int32) (i24 : Int32), f_X12_goes_179 N J ρ p1 p2 p3 i9 j11 v17 n I18 i19 i20 i21 i22 i23 i24 = some o → AW G mX12_goes (d + 2) 0 0 K 505 [some (.ref 89), some (.int p1), some (.int p2), some (.int p3), none, some (.int o.2.1), some (.int i9), some (.int j11), some (.int o.2.2.1), some (.int o.2.2.2), none, none, none, none, none, none, none, none, none] [] (o.1, J, ρ) → AW G mX12_goes (d + 2) 0 0 K 179 [some (.ref 89), some (.int p1), some (.int p2), some (.int p3), none, some (.int i19), some (.int i9), some (.int j11), some (.int i20), some (.int i21), some (.int i22), some (.int v17), some (.int i23), some (.int i24), none, none, none, none, none] [] (I18, J, ρ) := by
  intro n
  induction n with
  | zero => intro I18 i19 i20 i21 i22 i23 i24 hf hE; rw [f_X12_goes_179.eq_1] at hf; cases hf
  | succ n ih =>
    intro I18 i19 i20 i21 i22 i23 i24 hf hE
    rw [f_X12_goes_179.eq_2] at hf
    refine AW.iload dX12_goes_179 rfl ?_
    refine AW.aload_n dX12_goes_181 rfl ?_
    refine TW.getI (x := (I18 89 0)) fX12_130_12 hs.k89 rfl dX12_goes_182 ?_
    refine AW.icmp_ge (tgt := 505) dX12_goes_185 (by decide) (fun hc => ?_) (fun hc => ?_)
    · have hf := (if_pos hc).symm.trans hf
      obtain rfl := Option.some.inj hf
      exact AW.weak _ (by exact (And.intro rfl (And.intro rfl (And.intro rfl (And.intro rfl (And.intro rfl (And.intro rfl (And.intro rfl (And.intro rfl (And.intro rfl trivial)))))))))) hE
    · have hf := (if_neg hc).symm.trans hf
      refine AW.aload_n dX12_goes_188 rfl ?_
      refine TW.getR fX12_56_12 hs.k89 (rf_some hs.r89_19) dX12_goes_189 ?_
      refine AW.bipush (v := (8 : Int32)) dX12_goes_192 (by decide) ?_
      refine AW.iload dX12_goes_194 rfl ?_
      refine AW.imul dX12_goes_196 ?_
      refine AW.iload dX12_goes_197 rfl ?_
      refine AW.iadd dX12_goes_199 ?_
      obtain ⟨h25, hf⟩ := gd_split hf
      refine TW.iald (x := (I18 100 (tn (((8 : Int32) * i9) + i24)))) hs.k100 h25 rfl dX12_goes_200 ?_
      obtain ⟨x26, gx26, hf⟩ := bnd_one hf
      refine AW.nmI gx26 ?_
      refine AW.istore (ls' := [some (.ref 89), some (.int p1), some (.int p2), some (.int p3), none, some (.int i19), some (.int i9), some (.int j11), some (.int i20), some (.int i21), some (.int i22), some (.int v17), some (.int i23), some (.int i24), some (.int x26), none, none, none, none]) dX12_goes_201 (Nat.le_of_ble_eq_true rfl) rfl ?_
      refine AW.iload dX12_goes_203 rfl ?_
      obtain ⟨j27, gj27, hf⟩ := ob_split hf
      have Kj27 : AW G mX12_goes (d + 2) 0 0 K 228 [some (.ref 89), some (.int p1), some (.int p2), some (.int p3), none, some (.int i19), some (.int i9), some (.int j11), some (.int i20), some (.int i21), some (.int i22), some (.int v17), some (.int i23), some (.int i24), some (.int x26), none, none, none, none] [.int j27] (I18, J, ρ) := by
        refine AW.istore (ls' := [some (.ref 89), some (.int p1), some (.int p2), some (.int p3), none, some (.int i19), some (.int i9), some (.int j11), some (.int i20), some (.int i21), some (.int i22), some (.int v17), some (.int i23), some (.int i24), some (.int x26), some (.int j27), none, none, none]) dX12_goes_228 (Nat.le_of_ble_eq_true rfl) rfl ?_
        refine AW.iload dX12_goes_230 rfl ?_
        obtain ⟨j29, gj29, hf⟩ := ob_split hf
        have Kj29 : AW G mX12_goes (d + 2) 0 0 K 252 [some (.ref 89), some (.int p1), some (.int p2), some (.int p3), none, some (.int i19), some (.int i9), some (.int j11), some (.int i20), some (.int i21), some (.int i22), some (.int v17), some (.int i23), some (.int i24), some (.int x26), some (.int j27), none, none, none] [.int j29] (I18, J, ρ) := by
          refine AW.istore (ls' := [some (.ref 89), some (.int p1), some (.int p2), some (.int p3), none, some (.int i19), some (.int i9), some (.int j11), some (.int i20), some (.int i21), some (.int i22), some (.int v17), some (.int i23), some (.int i24), some (.int x26), some (.int j27), some (.int j29), none, none]) dX12_goes_252 (Nat.le_of_ble_eq_true rfl) rfl ?_
          refine AW.iload dX12_goes_254 rfl ?_
          refine AW.iload dX12_goes_256 rfl ?_
          obtain ⟨j30, gj30, hf⟩ := ob_split hf
          have Kj30 : AW G mX12_goes (d + 2) 0 0 K 268 [some (.ref 89), some (.int p1), some (.int p2), some (.int p3), none, some (.int i19), some (.int i9), some (.int j11), some (.int i20), some (.int i21), some (.int i22), some (.int v17), some (.int i23), some (.int i24), some (.int x26), some (.int j27), none, none, none] [.int j30] (I18, J, ρ) := by
            refine AW.istore (ls' := [some (.ref 89), some (.int p1), some (.int p2), some (.int p3), none, some (.int i19), some (.int i9), some (.int j11), some (.int i20), some (.int i21), some (.int i22), some (.int v17), some (.int i23), some (.int i24), some (.int x26), some (.int j27), some (.int j30), none, none]) dX12_goes_268 (Nat.le_of_ble_eq_true rfl) rfl ?_
            refine AW.iload dX12_goes_270 rfl ?_
            refine AW.iload dX12_goes_272 rfl ?_
            obtain ⟨j31, gj31, hf⟩ := ob_split hf
            have Kj31 : AW G mX12_goes (d + 2) 0 0 K 284 [some (.ref 89), some (.int p1), some (.int p2), some (.int p3), none, some (.int i19), some (.int i9), some (.int j11), some (.int i20), some (.int i21), some (.int i22), some (.int v17), some (.int i23), some (.int i24), some (.int x26), some (.int j27), none, none, none] [.int j31] (I18, J, ρ) := by
              refine AW.istore (ls' := [some (.ref 89), some (.int p1), some (.int p2), some (.int p3), none, some (.int i19), some (.int i9), some (.int j11), some (.int i20), some (.int i21), some (.int i22), some (.int v17), some (.int i23), some (.int i24), some (.int x26), some (.int j27), some (.int j31), none, none]) dX12_goes_284 (Nat.le_of_ble_eq_true rfl) rfl ?_
              refine AW.iload dX12_goes_286 rfl ?_
              refine AW.iload dX12_goes_288 rfl ?_
              obtain ⟨j32, gj32, hf⟩ := ob_split hf
              have Kj32 : AW G mX12_goes (d + 2) 0 0 K 298 [some (.ref 89), some (.int p1), some (.int p2), some (.int p3), none, some (.int i19), some (.int i9), some (.int j11), some (.int i20), some (.int i21), some (.int i22), some (.int v17), none, some (.int i24), some (.int x26), none, some (.int j31), none, none] [.int j32, .int i23] (I18, J, ρ) := by
                refine AW.iadd dX12_goes_298 ?_
                refine AW.istore (ls' := [some (.ref 89), some (.int p1), some (.int p2), some (.int p3), none, some (.int i19), some (.int i9), some (.int j11), some (.int i20), some (.int i21), some (.int i22), some (.int v17), some (.int (i23 + j32)), some (.int i24), some (.int x26), none, some (.int j31), none, none]) dX12_goes_299 (Nat.le_of_ble_eq_true rfl) rfl ?_
                refine AW.iload dX12_goes_301 rfl ?_
                refine AW.iload dX12_goes_303 rfl ?_
                refine AW.isub dX12_goes_305 ?_
                refine AW.istore (ls' := [some (.ref 89), some (.int p1), some (.int p2), some (.int p3), none, some (.int i19), some (.int i9), some (.int j11), some (.int i20), some (.int i21), some (.int (i22 - j31)), some (.int v17), some (.int (i23 + j32)), some (.int i24), some (.int x26), none, some (.int j31), none, none]) dX12_goes_306 (Nat.le_of_ble_eq_true rfl) rfl ?_
                refine AW.iload dX12_goes_308 rfl ?_
                refine AW.iload dX12_goes_310 rfl ?_
                refine AW.isub dX12_goes_312 ?_
                refine AW.istore (ls' := [some (.ref 89), some (.int p1), some (.int p2), some (.int p3), none, some (.int i19), some (.int i9), some (.int j11), some (.int (i20 - j31)), some (.int i21), some (.int (i22 - j31)), some (.int v17), some (.int (i23 + j32)), some (.int i24), some (.int x26), none, some (.int j31), none, none]) dX12_goes_313 (Nat.le_of_ble_eq_true rfl) rfl ?_
                refine AW.aload_n dX12_goes_315 rfl ?_
                refine TW.getR fX12_59_12 hs.k89 (rf_some hs.r89_20) dX12_goes_316 ?_
                refine AW.bipush (v := (8 : Int32)) dX12_goes_319 (by decide) ?_
                refine AW.iload dX12_goes_321 rfl ?_
                refine AW.imul dX12_goes_323 ?_
                refine AW.iload dX12_goes_324 rfl ?_
                refine AW.iadd dX12_goes_326 ?_
                refine AW.iload dX12_goes_327 rfl ?_
                obtain ⟨h33, hf⟩ := gd_split hf
                refine TW.iast hs.k101 h33 dX12_goes_329 ?_
                show AW G mX12_goes (d + 2) 0 0 K 330 [some (.ref 89), some (.int p1), some (.int p2), some (.int p3), none, some (.int i19), some (.int i9), some (.int j11), some (.int (i20 - j31)), some (.int i21), some (.int (i22 - j31)), some (.int v17), some (.int (i23 + j32)), some (.int i24), some (.int x26), none, some (.int j31), none, none] [] ((u2 I18 101 (tn (((8 : Int32) * i9) + i24)) j31), J, ρ)
                refine AW.iload dX12_goes_330 rfl ?_
                refine AW.istore (ls' := [some (.ref 89), some (.int p1), some (.int p2), some (.int p3), none, some (.int i19), some (.int i9), some (.int j11), some (.int (i20 - j31)), some (.int i21), some (.int (i22 - j31)), some (.int v17), some (.int (i23 + j32)), some (.int i24), some (.int x26), none, some (.int j31), some (.int x26), none]) dX12_goes_332 (Nat.le_of_ble_eq_true rfl) rfl ?_
                refine AW.iload dX12_goes_334 rfl ?_
                obtain ⟨j41, gj41, hf⟩ := ob_split hf
                have Kj41 : AW G mX12_goes (d + 2) 0 0 K 481 [some (.ref 89), some (.int p1), some (.int p2), some (.int p3), none, some (.int j41.1), some (.int i9), some (.int j11), some (.int (i20 - j31)), some (.int j41.2.1), some (.int (i22 - j31)), some (.int v17), some (.int (i23 + j32)), some (.int i24), none, none, none, some (.int j41.2.2.1), none] [] (j41.2.2.2, J, ρ) := by
                  refine AW.aload_n dX12_goes_481 rfl ?_
                  refine TW.getR fX12_56_12 hs.k89 (rf_some hs.r89_19) dX12_goes_482 ?_
                  refine AW.bipush (v := (8 : Int32)) dX12_goes_485 (by decide) ?_
                  refine AW.iload dX12_goes_487 rfl ?_
                  refine AW.imul dX12_goes_489 ?_
                  refine AW.bipush (v := (8 : Int32)) dX12_goes_490 (by decide) ?_
                  refine AW.iadd dX12_goes_492 ?_
                  refine AW.iload dX12_goes_493 rfl ?_
                  refine AW.iadd dX12_goes_495 ?_
                  refine AW.iload dX12_goes_496 rfl ?_
                  obtain ⟨h42, hf⟩ := gd_split hf
                  refine TW.iast hs.k100 h42 dX12_goes_498 ?_
                  show AW G mX12_goes (d + 2) 0 0 K 499 [some (.ref 89), some (.int p1), some (.int p2), some (.int p3), none, some (.int j41.1), some (.int i9), some (.int j11), some (.int (i20 - j31)), some (.int j41.2.1), some (.int (i22 - j31)), some (.int v17), some (.int (i23 + j32)), some (.int i24), none, none, none, some (.int j41.2.2.1), none] [] ((u2 j41.2.2.2 100 (tn ((((8 : Int32) * i9) + (8 : Int32)) + i24)) j41.2.2.1), J, ρ)
                  refine AW.iinc (v := (i24 + (1 : Int32))) (ls' := [some (.ref 89), some (.int p1), some (.int p2), some (.int p3), none, some (.int j41.1), some (.int i9), some (.int j11), some (.int (i20 - j31)), some (.int j41.2.1), some (.int (i22 - j31)), some (.int v17), some (.int (i23 + j32)), some (.int (i24 + (1 : Int32))), none, none, none, some (.int j41.2.2.1), none]) dX12_goes_499 rfl rfl (Nat.le_of_ble_eq_true rfl) rfl ?_
                  refine AW.goto (tgt := 179) dX12_goes_502 (by decide) ?_
                  exact AW.weak _ (by exact (And.intro rfl (And.intro rfl (And.intro rfl (And.intro rfl (And.intro rfl (And.intro rfl (And.intro rfl (And.intro rfl (And.intro rfl (And.intro rfl (And.intro rfl (And.intro rfl (And.intro rfl trivial)))))))))))))) (ih (u2 j41.2.2.2 100 (tn ((((8 : Int32) * i9) + (8 : Int32)) + i24)) j41.2.2.1) j41.1 (i20 - j31) j41.2.1 (i22 - j31) (i23 + j32) (i24 + (1 : Int32)) hf hE)
                clear hf; have hf := gj41; clear gj41
                refine AW.if_eq (tgt := 481) dX12_goes_336 (by decide) (fun hc => ?_) (fun hc => ?_)
                · have hf := (if_pos hc).symm.trans hf
                  obtain rfl := Option.some.inj hf
                  exact AW.weak _ (by exact (And.intro rfl (And.intro rfl (And.intro rfl (And.intro rfl (And.intro rfl (And.intro rfl (And.intro rfl (And.intro rfl (And.intro rfl (And.intro rfl (And.intro rfl (And.intro rfl (And.intro rfl (And.intro rfl trivial))))))))))))))) Kj41
                · have hf := (if_neg hc).symm.trans hf
                  refine AW.iload dX12_goes_339 rfl ?_
                  refine AW.if_le (tgt := 481) dX12_goes_341 (by decide) (fun hc => ?_) (fun hc => ?_)
                  · have hf := (if_pos hc).symm.trans hf
                    obtain rfl := Option.some.inj hf
                    exact AW.weak _ (by exact (And.intro rfl (And.intro rfl (And.intro rfl (And.intro rfl (And.intro rfl (And.intro rfl (And.intro rfl (And.intro rfl (And.intro rfl (And.intro rfl (And.intro rfl (And.intro rfl (And.intro rfl (And.intro rfl trivial))))))))))))))) Kj41
                  · have hf := (if_neg hc).symm.trans hf
                    refine AW.aload_n dX12_goes_344 rfl ?_
                    refine TW.getR fX12_118_12 hs.k89 (rf_some hs.r89_47) dX12_goes_345 ?_
                    refine AW.iconst (v := (0 : Int32)) dX12_goes_348 (by decide) ?_
                    refine AW.iload dX12_goes_349 rfl ?_
                    refine TW.iast hs.k113 (show ¬ ((0 : Int32) < 0 ∨ 6 ≤ (0 : Int32).toNatClampNeg) by decide) dX12_goes_351 ?_
                    show AW G mX12_goes (d + 2) 0 0 K 352 [some (.ref 89), some (.int p1), some (.int p2), some (.int p3), none, some (.int i19), some (.int i9), some (.int j11), some (.int (i20 - j31)), some (.int i21), some (.int (i22 - j31)), some (.int v17), some (.int (i23 + j32)), some (.int i24), some (.int x26), none, some (.int j31), some (.int x26), none] [] ((u2 (u2 I18 101 (tn (((8 : Int32) * i9) + i24)) j31) 113 0 x26), J, ρ)
                    refine AW.aload_n dX12_goes_352 rfl ?_
                    refine TW.getR fX12_118_12 hs.k89 (rf_some hs.r89_47) dX12_goes_353 ?_
                    refine AW.iconst (v := (1 : Int32)) dX12_goes_356 (by decide) ?_
                    refine AW.aload_n dX12_goes_357 rfl ?_
                    refine TW.getR fX12_13_12 hs.k89 (rf_some hs.r89_2) dX12_goes_358 ?_
                    refine AW.iload dX12_goes_361 rfl ?_
                    obtain ⟨h34, hf⟩ := gd_split hf
                    refine TW.iald (x := (I18 91 (tn i24))) hs.k91 h34 ((u2_ne (by decide)).trans (u2_ne (by decide))) dX12_goes_363 ?_
                    refine TW.iast hs.k113 (show ¬ ((1 : Int32) < 0 ∨ 6 ≤ (1 : Int32).toNatClampNeg) by decide) dX12_goes_364 ?_
                    show AW G mX12_goes (d + 2) 0 0 K 365 [some (.ref 89), some (.int p1), some (.int p2), some (.int p3), none, some (.int i19), some (.int i9), some (.int j11), some (.int (i20 - j31)), some (.int i21), some (.int (i22 - j31)), some (.int v17), some (.int (i23 + j32)), some (.int i24), some (.int x26), none, some (.int j31), some (.int x26), none] [] ((u2 (u2 (u2 I18 101 (tn (((8 : Int32) * i9) + i24)) j31) 113 0 x26) 113 1 (I18 91 (tn i24))), J, ρ)
                    refine AW.aload_n dX12_goes_365 rfl ?_
                    refine TW.getR fX12_118_12 hs.k89 (rf_some hs.r89_47) dX12_goes_366 ?_
                    refine AW.iconst (v := (2 : Int32)) dX12_goes_369 (by decide) ?_
                    refine AW.iload dX12_goes_370 rfl ?_
                    refine TW.iast hs.k113 (show ¬ ((2 : Int32) < 0 ∨ 6 ≤ (2 : Int32).toNatClampNeg) by decide) dX12_goes_372 ?_
                    show AW G mX12_goes (d + 2) 0 0 K 373 [some (.ref 89), some (.int p1), some (.int p2), some (.int p3), none, some (.int i19), some (.int i9), some (.int j11), some (.int (i20 - j31)), some (.int i21), some (.int (i22 - j31)), some (.int v17), some (.int (i23 + j32)), some (.int i24), some (.int x26), none, some (.int j31), some (.int x26), none] [] ((u2 (u2 (u2 (u2 I18 101 (tn (((8 : Int32) * i9) + i24)) j31) 113 0 x26) 113 1 (I18 91 (tn i24))) 113 2 i9), J, ρ)
                    refine AW.aload_n dX12_goes_373 rfl ?_
                    refine TW.getR fX12_118_12 hs.k89 (rf_some hs.r89_47) dX12_goes_374 ?_
                    refine AW.iconst (v := (3 : Int32)) dX12_goes_377 (by decide) ?_
                    refine AW.iload dX12_goes_378 rfl ?_
                    refine TW.iast hs.k113 (show ¬ ((3 : Int32) < 0 ∨ 6 ≤ (3 : Int32).toNatClampNeg) by decide) dX12_goes_380 ?_
                    show AW G mX12_goes (d + 2) 0 0 K 381 [some (.ref 89), some (.int p1), some (.int p2), some (.int p3), none, some (.int i19), some (.int i9), some (.int j11), some (.int (i20 - j31)), some (.int i21), some (.int (i22 - j31)), some (.int v17), some (.int (i23 + j32)), some (.int i24), some (.int x26), none, some (.int j31), some (.int x26), none] [] ((u2 (u2 (u2 (u2 (u2 I18 101 (tn (((8 : Int32) * i9) + i24)) j31) 113 0 x26) 113 1 (I18 91 (tn i24))) 113 2 i9) 113 3 j31), J, ρ)
                    refine AW.aload_n dX12_goes_381 rfl ?_
                    refine TW.getR fX12_118_12 hs.k89 (rf_some hs.r89_47) dX12_goes_382 ?_
                    refine AW.iconst (v := (4 : Int32)) dX12_goes_385 (by decide) ?_
                    refine AW.iload dX12_goes_386 rfl ?_
                    refine TW.iast hs.k113 (show ¬ ((4 : Int32) < 0 ∨ 6 ≤ (4 : Int32).toNatClampNeg) by decide) dX12_goes_388 ?_
                    show AW G mX12_goes (d + 2) 0 0 K 389 [some (.ref 89), some (.int p1), some (.int p2), some (.int p3), none, some (.int i19), some (.int i9), some (.int j11), some (.int (i20 - j31)), some (.int i21), some (.int (i22 - j31)), some (.int v17), some (.int (i23 + j32)), some (.int i24), some (.int x26), none, some (.int j31), some (.int x26), none] [] ((u2 (u2 (u2 (u2 (u2 (u2 I18 101 (tn (((8 : Int32) * i9) + i24)) j31) 113 0 x26) 113 1 (I18 91 (tn i24))) 113 2 i9) 113 3 j31) 113 4 v17), J, ρ)
                    refine AW.aload_n dX12_goes_389 rfl ?_
                    refine TW.getR fX12_118_12 hs.k89 (rf_some hs.r89_47) dX12_goes_390 ?_
                    refine AW.iconst (v := (5 : Int32)) dX12_goes_393 (by decide) ?_
                    refine AW.aload_n dX12_goes_394 rfl ?_
                    refine TW.getR fX12_38_12 hs.k89 (rf_some hs.r89_11) dX12_goes_395 ?_
                    refine AW.iload_n dX12_goes_398 rfl ?_
                    obtain ⟨h35, hf⟩ := gd_split hf
                    refine TW.iald (x := (I18 95 (tn p1))) hs.k95 h35 ((u2_ne (by decide)).trans ((u2_ne (by decide)).trans ((u2_ne (by decide)).trans ((u2_ne (by decide)).trans ((u2_ne (by decide)).trans (u2_ne (by decide))))))) dX12_goes_399 ?_
                    refine TW.iast hs.k113 (show ¬ ((5 : Int32) < 0 ∨ 6 ≤ (5 : Int32).toNatClampNeg) by decide) dX12_goes_400 ?_
                    show AW G mX12_goes (d + 2) 0 0 K 401 [some (.ref 89), some (.int p1), some (.int p2), some (.int p3), none, some (.int i19), some (.int i9), some (.int j11), some (.int (i20 - j31)), some (.int i21), some (.int (i22 - j31)), some (.int v17), some (.int (i23 + j32)), some (.int i24), some (.int x26), none, some (.int j31), some (.int x26), none] [] ((u2 (u2 (u2 (u2 (u2 (u2 (u2 I18 101 (tn (((8 : Int32) * i9) + i24)) j31) 113 0 x26) 113 1 (I18 91 (tn i24))) 113 2 i9) 113 3 j31) 113 4 v17) 113 5 (I18 95 (tn p1))), J, ρ)
                    refine AW.iload dX12_goes_401 rfl ?_
                    refine AW.aload_n dX12_goes_403 rfl ?_
                    refine AW.iconst (v := (1 : Int32)) dX12_goes_404 (by decide) ?_
                    refine AW.bipush (v := (99 : Int32)) dX12_goes_405 (by decide) ?_
                    obtain ⟨v36, gv36, hf⟩ := ob_split hf
                    refine TW.invv (as := [.int (1 : Int32), .int (99 : Int32)]) (rest := [.int i21]) viX12_236_12 hs.k89 dX12_goes_407 rfl rfl (Nat.le_of_ble_eq_true rfl) (c_X12_worth hs gv36 ?_)
                    show AW G mX12_goes (d + 2) 0 0 K 410 [some (.ref 89), some (.int p1), some (.int p2), some (.int p3), none, some (.int i19), some (.int i9), some (.int j11), some (.int (i20 - j31)), some (.int i21), some (.int (i22 - j31)), some (.int v17), some (.int (i23 + j32)), some (.int i24), some (.int x26), none, some (.int j31), some (.int x26), none] [.int v36.2, .int i21] (v36.1, J, ρ)
                    refine AW.iadd dX12_goes_410 ?_
                    refine AW.istore (ls' := [some (.ref 89), some (.int p1), some (.int p2), some (.int p3), none, some (.int i19), some (.int i9), some (.int j11), some (.int (i20 - j31)), some (.int (i21 + v36.2)), some (.int (i22 - j31)), some (.int v17), some (.int (i23 + j32)), some (.int i24), some (.int x26), none, some (.int j31), some (.int x26), none]) dX12_goes_411 (Nat.le_of_ble_eq_true rfl) rfl ?_
                    refine AW.iload dX12_goes_413 rfl ?_
                    refine AW.iload_n dX12_goes_415 rfl ?_
                    obtain ⟨j37, gj37, hf⟩ := ob_split hf
                    have Kj37 : AW G mX12_goes (d + 2) 0 0 K 429 [some (.ref 89), some (.int p1), some (.int p2), some (.int p3), none, some (.int i19), some (.int i9), some (.int j11), some (.int (i20 - j31)), some (.int (i21 + v36.2)), some (.int (i22 - j31)), some (.int v17), some (.int (i23 + j32)), some (.int i24), some (.int x26), none, some (.int j31), none, none] [.int j37] (v36.1, J, ρ) := by
                      refine AW.istore (ls' := [some (.ref 89), some (.int p1), some (.int p2), some (.int p3), none, some (.int i19), some (.int i9), some (.int j11), some (.int (i20 - j31)), some (.int (i21 + v36.2)), some (.int (i22 - j31)), some (.int v17), some (.int (i23 + j32)), some (.int i24), some (.int x26), none, some (.int j31), none, some (.int j37)]) dX12_goes_429 (Nat.le_of_ble_eq_true rfl) rfl ?_
                      refine AW.iload dX12_goes_431 rfl ?_
                      refine AW.iload dX12_goes_433 rfl ?_
                      refine AW.isub dX12_goes_435 ?_
                      refine AW.istore (ls' := [some (.ref 89), some (.int p1), some (.int p2), some (.int p3), none, some (.int (i19 - j37)), some (.int i9), some (.int j11), some (.int (i20 - j31)), some (.int (i21 + v36.2)), some (.int (i22 - j31)), some (.int v17), some (.int (i23 + j32)), some (.int i24), some (.int x26), none, some (.int j31), none, some (.int j37)]) dX12_goes_436 (Nat.le_of_ble_eq_true rfl) rfl ?_
                      refine AW.iload dX12_goes_438 rfl ?_
                      refine AW.iload dX12_goes_440 rfl ?_
                      refine AW.iadd dX12_goes_442 ?_
                      refine AW.iload dX12_goes_443 rfl ?_
                      refine AW.iadd dX12_goes_445 ?_
                      refine AW.aload_n dX12_goes_446 rfl ?_
                      refine AW.iconst (v := (0 : Int32)) dX12_goes_447 (by decide) ?_
                      refine AW.bipush (v := (20 : Int32)) dX12_goes_448 (by decide) ?_
                      obtain ⟨v38, gv38, hf⟩ := ob_split hf
                      refine TW.invv (as := [.int (0 : Int32), .int (20 : Int32)]) (rest := [.int ((x26 + j31) + j37)]) viX12_236_12 hs.k89 dX12_goes_450 rfl rfl (Nat.le_of_ble_eq_true rfl) (c_X12_worth hs gv38 ?_)
                      show AW G mX12_goes (d + 2) 0 0 K 453 [some (.ref 89), some (.int p1), some (.int p2), some (.int p3), none, some (.int (i19 - j37)), some (.int i9), some (.int j11), some (.int (i20 - j31)), some (.int (i21 + v36.2)), some (.int (i22 - j31)), some (.int v17), some (.int (i23 + j32)), some (.int i24), some (.int x26), none, some (.int j31), none, some (.int j37)] [.int v38.2, .int ((x26 + j31) + j37)] (v38.1, J, ρ)
                      refine AW.isub dX12_goes_453 ?_
                      obtain ⟨x39, gx39, hf⟩ := bnd_one hf
                      refine AW.nmI gx39 ?_
                      refine AW.istore (ls' := [some (.ref 89), some (.int p1), some (.int p2), some (.int p3), none, some (.int (i19 - j37)), some (.int i9), some (.int j11), some (.int (i20 - j31)), some (.int (i21 + v36.2)), some (.int (i22 - j31)), some (.int v17), some (.int (i23 + j32)), some (.int i24), some (.int x26), none, some (.int j31), some (.int x39), some (.int j37)]) dX12_goes_454 (Nat.le_of_ble_eq_true rfl) rfl ?_
                      refine AW.iload dX12_goes_456 rfl ?_
                      obtain ⟨j40, gj40, hf⟩ := ob_split hf
                      have Kj40 : AW G mX12_goes (d + 2) 0 0 K 479 [some (.ref 89), some (.int p1), some (.int p2), some (.int p3), none, some (.int (i19 - j37)), some (.int i9), some (.int j11), some (.int (i20 - j31)), some (.int (i21 + v36.2)), some (.int (i22 - j31)), some (.int v17), some (.int (i23 + j32)), some (.int i24), none, none, none, none, none] [.int j40] (v38.1, J, ρ) := by
                        refine AW.istore (ls' := [some (.ref 89), some (.int p1), some (.int p2), some (.int p3), none, some (.int (i19 - j37)), some (.int i9), some (.int j11), some (.int (i20 - j31)), some (.int (i21 + v36.2)), some (.int (i22 - j31)), some (.int v17), some (.int (i23 + j32)), some (.int i24), none, none, none, some (.int j40), none]) dX12_goes_479 (Nat.le_of_ble_eq_true rfl) rfl ?_
                        obtain rfl := Option.some.inj hf
                        exact AW.weak _ (by exact (And.intro rfl (And.intro rfl (And.intro rfl (And.intro rfl (And.intro rfl (And.intro rfl (And.intro rfl (And.intro rfl (And.intro rfl (And.intro rfl (And.intro rfl (And.intro rfl (And.intro rfl (And.intro rfl trivial))))))))))))))) Kj41
                      clear hf; have hf := gj40; clear gj40
                      refine AW.if_ge (tgt := 465) dX12_goes_458 (by decide) (fun hc => ?_) (fun hc => ?_)
                      · have hf := (if_pos hc).symm.trans hf
                        refine AW.iload dX12_goes_465 rfl ?_
                        refine AW.bipush (v := (99 : Int32)) dX12_goes_467 (by decide) ?_
                        refine AW.icmp_le (tgt := 477) dX12_goes_469 (by decide) (fun hc => ?_) (fun hc => ?_)
                        · have hf := (if_pos hc).symm.trans hf
                          refine AW.iload dX12_goes_477 rfl ?_
                          obtain rfl := Option.some.inj hf
                          exact AW.weak _ (by exact (And.intro rfl (And.intro rfl (And.intro rfl (And.intro rfl (And.intro rfl (And.intro rfl (And.intro rfl (And.intro rfl (And.intro rfl (And.intro rfl (And.intro rfl (And.intro rfl (And.intro rfl trivial)))))))))))))) Kj40
                        · have hf := (if_neg hc).symm.trans hf
                          refine AW.bipush (v := (99 : Int32)) dX12_goes_472 (by decide) ?_
                          refine AW.goto (tgt := 479) dX12_goes_474 (by decide) ?_
                          obtain rfl := Option.some.inj hf
                          exact AW.weak _ (by exact (And.intro rfl (And.intro rfl (And.intro rfl (And.intro rfl (And.intro rfl (And.intro rfl (And.intro rfl (And.intro rfl (And.intro rfl (And.intro rfl (And.intro rfl (And.intro rfl (And.intro rfl trivial)))))))))))))) Kj40
                      · have hf := (if_neg hc).symm.trans hf
                        refine AW.iconst (v := (0 : Int32)) dX12_goes_461 (by decide) ?_
                        refine AW.goto (tgt := 479) dX12_goes_462 (by decide) ?_
                        obtain rfl := Option.some.inj hf
                        exact AW.weak _ (by exact (And.intro rfl (And.intro rfl (And.intro rfl (And.intro rfl (And.intro rfl (And.intro rfl (And.intro rfl (And.intro rfl (And.intro rfl (And.intro rfl (And.intro rfl (And.intro rfl (And.intro rfl trivial)))))))))))))) Kj40
                    clear hf; have hf := gj37; clear gj37
                    refine AW.icmp_ne (tgt := 428) dX12_goes_416 (by decide) (fun hc => ?_) (fun hc => ?_)
                    · have hf := (if_neg hc).symm.trans hf
                      refine AW.iconst (v := (0 : Int32)) dX12_goes_428 (by decide) ?_
                      obtain rfl := Option.some.inj hf
                      exact AW.weak _ (by exact (And.intro rfl (And.intro rfl (And.intro rfl (And.intro rfl (And.intro rfl (And.intro rfl (And.intro rfl (And.intro rfl (And.intro rfl (And.intro rfl (And.intro rfl (And.intro rfl (And.intro rfl (And.intro rfl (And.intro rfl trivial)))))))))))))))) Kj37
                    · have hf := (if_pos hc).symm.trans hf
                      refine AW.iload dX12_goes_419 rfl ?_
                      refine AW.if_le (tgt := 428) dX12_goes_421 (by decide) (fun hc => ?_) (fun hc => ?_)
                      · have hf := (if_pos hc).symm.trans hf
                        refine AW.iconst (v := (0 : Int32)) dX12_goes_428 (by decide) ?_
                        obtain rfl := Option.some.inj hf
                        exact AW.weak _ (by exact (And.intro rfl (And.intro rfl (And.intro rfl (And.intro rfl (And.intro rfl (And.intro rfl (And.intro rfl (And.intro rfl (And.intro rfl (And.intro rfl (And.intro rfl (And.intro rfl (And.intro rfl (And.intro rfl (And.intro rfl trivial)))))))))))))))) Kj37
                      · have hf := (if_neg hc).symm.trans hf
                        refine AW.iconst (v := (1 : Int32)) dX12_goes_424 (by decide) ?_
                        refine AW.goto (tgt := 429) dX12_goes_425 (by decide) ?_
                        obtain rfl := Option.some.inj hf
                        exact AW.weak _ (by exact (And.intro rfl (And.intro rfl (And.intro rfl (And.intro rfl (And.intro rfl (And.intro rfl (And.intro rfl (And.intro rfl (And.intro rfl (And.intro rfl (And.intro rfl (And.intro rfl (And.intro rfl (And.intro rfl (And.intro rfl trivial)))))))))))))))) Kj37
              clear hf; have hf := gj32; clear gj32
              refine AW.if_eq (tgt := 297) dX12_goes_290 (by decide) (fun hc => ?_) (fun hc => ?_)
              · have hf := (if_pos hc).symm.trans hf
                refine AW.iconst (v := (0 : Int32)) dX12_goes_297 (by decide) ?_
                obtain rfl := Option.some.inj hf
                exact AW.weak _ (by exact (And.intro rfl (And.intro rfl (And.intro rfl (And.intro rfl (And.intro rfl (And.intro rfl (And.intro rfl (And.intro rfl (And.intro rfl (And.intro rfl (And.intro rfl (And.intro rfl (And.intro rfl (And.intro rfl trivial))))))))))))))) Kj32
              · have hf := (if_neg hc).symm.trans hf
                refine AW.iconst (v := (1 : Int32)) dX12_goes_293 (by decide) ?_
                refine AW.goto (tgt := 298) dX12_goes_294 (by decide) ?_
                obtain rfl := Option.some.inj hf
                exact AW.weak _ (by exact (And.intro rfl (And.intro rfl (And.intro rfl (And.intro rfl (And.intro rfl (And.intro rfl (And.intro rfl (And.intro rfl (And.intro rfl (And.intro rfl (And.intro rfl (And.intro rfl (And.intro rfl (And.intro rfl trivial))))))))))))))) Kj32
            clear hf; have hf := gj31; clear gj31
            refine AW.icmp_ge (tgt := 282) dX12_goes_274 (by decide) (fun hc => ?_) (fun hc => ?_)
            · have hf := (if_pos hc).symm.trans hf
              refine AW.iload dX12_goes_282 rfl ?_
              obtain rfl := Option.some.inj hf
              exact AW.weak _ (by exact (And.intro rfl (And.intro rfl (And.intro rfl (And.intro rfl (And.intro rfl (And.intro rfl (And.intro rfl (And.intro rfl (And.intro rfl (And.intro rfl (And.intro rfl (And.intro rfl (And.intro rfl (And.intro rfl (And.intro rfl trivial)))))))))))))))) Kj31
            · have hf := (if_neg hc).symm.trans hf
              refine AW.iload dX12_goes_277 rfl ?_
              refine AW.goto (tgt := 284) dX12_goes_279 (by decide) ?_
              obtain rfl := Option.some.inj hf
              exact AW.weak _ (by exact (And.intro rfl (And.intro rfl (And.intro rfl (And.intro rfl (And.intro rfl (And.intro rfl (And.intro rfl (And.intro rfl (And.intro rfl (And.intro rfl (And.intro rfl (And.intro rfl (And.intro rfl (And.intro rfl (And.intro rfl trivial)))))))))))))))) Kj31
          clear hf; have hf := gj30; clear gj30
          refine AW.icmp_ge (tgt := 266) dX12_goes_258 (by decide) (fun hc => ?_) (fun hc => ?_)
          · have hf := (if_pos hc).symm.trans hf
            refine AW.iload dX12_goes_266 rfl ?_
            obtain rfl := Option.some.inj hf
            exact AW.weak _ (by exact (And.intro rfl (And.intro rfl (And.intro rfl (And.intro rfl (And.intro rfl (And.intro rfl (And.intro rfl (And.intro rfl (And.intro rfl (And.intro rfl (And.intro rfl (And.intro rfl (And.intro rfl (And.intro rfl (And.intro rfl trivial)))))))))))))))) Kj30
          · have hf := (if_neg hc).symm.trans hf
            refine AW.iload dX12_goes_261 rfl ?_
            refine AW.goto (tgt := 268) dX12_goes_263 (by decide) ?_
            obtain rfl := Option.some.inj hf
            exact AW.weak _ (by exact (And.intro rfl (And.intro rfl (And.intro rfl (And.intro rfl (And.intro rfl (And.intro rfl (And.intro rfl (And.intro rfl (And.intro rfl (And.intro rfl (And.intro rfl (And.intro rfl (And.intro rfl (And.intro rfl (And.intro rfl trivial)))))))))))))))) Kj30
        clear hf; have hf := gj29; clear gj29
        refine AW.if_eq (tgt := 251) dX12_goes_232 (by decide) (fun hc => ?_) (fun hc => ?_)
        · have hf := (if_pos hc).symm.trans hf
          refine AW.iconst (v := (0 : Int32)) dX12_goes_251 (by decide) ?_
          obtain rfl := Option.some.inj hf
          exact AW.weak _ (by exact (And.intro rfl (And.intro rfl (And.intro rfl (And.intro rfl (And.intro rfl (And.intro rfl (And.intro rfl (And.intro rfl (And.intro rfl (And.intro rfl (And.intro rfl (And.intro rfl (And.intro rfl (And.intro rfl (And.intro rfl trivial)))))))))))))))) Kj29
        · have hf := (if_neg hc).symm.trans hf
          refine AW.aload_n dX12_goes_235 rfl ?_
          refine AW.iload_n dX12_goes_236 rfl ?_
          refine AW.iload dX12_goes_237 rfl ?_
          refine AW.iload dX12_goes_239 rfl ?_
          refine AW.iload dX12_goes_241 rfl ?_
          refine AW.iload dX12_goes_243 rfl ?_
          obtain ⟨v28, gv28, hf⟩ := ob_split hf
          refine TW.invv (as := [.int p1, .int i24, .int i9, .int i23, .int v17]) (rest := []) viX12_232_12 hs.k89 dX12_goes_245 rfl rfl (Nat.le_of_ble_eq_true rfl) (c_X12_share hs gv28 ?_)
          show AW G mX12_goes (d + 2) 0 0 K 248 [some (.ref 89), some (.int p1), some (.int p2), some (.int p3), none, some (.int i19), some (.int i9), some (.int j11), some (.int i20), some (.int i21), some (.int i22), some (.int v17), some (.int i23), some (.int i24), some (.int x26), some (.int j27), none, none, none] [.int v28] (I18, J, ρ)
          refine AW.goto (tgt := 252) dX12_goes_248 (by decide) ?_
          obtain rfl := Option.some.inj hf
          exact AW.weak _ (by exact (And.intro rfl (And.intro rfl (And.intro rfl (And.intro rfl (And.intro rfl (And.intro rfl (And.intro rfl (And.intro rfl (And.intro rfl (And.intro rfl (And.intro rfl (And.intro rfl (And.intro rfl (And.intro rfl (And.intro rfl trivial)))))))))))))))) Kj29
      clear hf; have hf := gj27; clear gj27
      refine AW.if_eq (tgt := 227) dX12_goes_205 (by decide) (fun hc => ?_) (fun hc => ?_)
      · have hf := (if_pos hc).symm.trans hf
        refine AW.iconst (v := (0 : Int32)) dX12_goes_227 (by decide) ?_
        obtain rfl := Option.some.inj hf
        exact AW.weak _ (by exact (And.intro rfl (And.intro rfl (And.intro rfl (And.intro rfl (And.intro rfl (And.intro rfl (And.intro rfl (And.intro rfl (And.intro rfl (And.intro rfl (And.intro rfl (And.intro rfl (And.intro rfl (And.intro rfl trivial))))))))))))))) Kj27
      · have hf := (if_neg hc).symm.trans hf
        refine AW.iload dX12_goes_208 rfl ?_
        refine AW.if_le (tgt := 227) dX12_goes_210 (by decide) (fun hc => ?_) (fun hc => ?_)
        · have hf := (if_pos hc).symm.trans hf
          refine AW.iconst (v := (0 : Int32)) dX12_goes_227 (by decide) ?_
          obtain rfl := Option.some.inj hf
          exact AW.weak _ (by exact (And.intro rfl (And.intro rfl (And.intro rfl (And.intro rfl (And.intro rfl (And.intro rfl (And.intro rfl (And.intro rfl (And.intro rfl (And.intro rfl (And.intro rfl (And.intro rfl (And.intro rfl (And.intro rfl trivial))))))))))))))) Kj27
        · have hf := (if_neg hc).symm.trans hf
          refine AW.iload_n dX12_goes_213 rfl ?_
          refine AW.iload dX12_goes_214 rfl ?_
          refine AW.ishr dX12_goes_216 ?_
          refine AW.iconst (v := (1 : Int32)) dX12_goes_217 (by decide) ?_
          refine AW.iand dX12_goes_218 ?_
          refine AW.iconst (v := (1 : Int32)) dX12_goes_219 (by decide) ?_
          refine AW.icmp_ne (tgt := 227) dX12_goes_220 (by decide) (fun hc => ?_) (fun hc => ?_)
          · have hf := (if_neg hc).symm.trans hf
            refine AW.iconst (v := (0 : Int32)) dX12_goes_227 (by decide) ?_
            obtain rfl := Option.some.inj hf
            exact AW.weak _ (by exact (And.intro rfl (And.intro rfl (And.intro rfl (And.intro rfl (And.intro rfl (And.intro rfl (And.intro rfl (And.intro rfl (And.intro rfl (And.intro rfl (And.intro rfl (And.intro rfl (And.intro rfl (And.intro rfl trivial))))))))))))))) Kj27
          · have hf := (if_pos hc).symm.trans hf
            refine AW.iconst (v := (1 : Int32)) dX12_goes_223 (by decide) ?_
            refine AW.goto (tgt := 228) dX12_goes_224 (by decide) ?_
            obtain rfl := Option.some.inj hf
            exact AW.weak _ (by exact (And.intro rfl (And.intro rfl (And.intro rfl (And.intro rfl (And.intro rfl (And.intro rfl (And.intro rfl (And.intro rfl (And.intro rfl (And.intro rfl (And.intro rfl (And.intro rfl (And.intro rfl (And.intro rfl trivial))))))))))))))) Kj27
def f_X12_goes_72 (N : Nat) (J : Nat → Nat → Int64) (ρ : Rh) (p1 : Int32) (p2 : Int32) (p3 : Int32) : Nat → (Nat → Nat → Int32) → Int32 → Int32 → Option ((Nat → Nat → Int32))
  | 0, _, _, _ => none
  | n + 1, I7, i8, i9 => (if ((I7 89 3) ≤ i9) then some I7 else (((if ((I7 89 23) = (-1 : Int32)) then (Option.bind (f_X12_living N ρ I7 J i9) fun v10 => (if (v10 ≤ (0 : Int32)) then some (0 : Int32) else some (1 : Int32))) else some (0 : Int32)) : Option (Int32)).bind fun j11 => (if ¬ (i9 < 0 ∨ 13 ≤ tn i9) then (((if (j11 = (0 : Int32)) then some (0 : Int32) else (if ¬ (i9 < 0 ∨ 12 ≤ tn i9) then some (I7 93 (tn i9)) else none)) : Option (Int32)).bind fun j14 => (((if (((I7 102 (tn i9)) + j14) ≤ (9999 : Int32)) then some ((I7 102 (tn i9)) + j14) else some (9999 : Int32)) : Option (Int32)).bind fun j15 => (if ¬ (i9 < 0 ∨ 13 ≤ tn i9) then (Option.bind (f_X12_drinkers N ρ I7 J i9 p2) fun v17 => ((f_X12_goes_179 N J ρ p1 p2 p3 i9 j11 v17 N I7 i8 j15 (I7 103 (tn i9)) (I7 89 5) (0 : Int32) (0 : Int32)).bind fun j43 => (((if (j11 = (0 : Int32)) then (if ¬ (i9 < 0 ∨ 13 ≤ tn i9) then some (j43.1 102 (tn i9)) else none) else some j43.2.2.1) : Option (Int32)).bind fun j45 => (if ¬ ((i9 + (1 : Int32)) < 0 ∨ 13 ≤ tn (i9 + (1 : Int32))) then (if ¬ ((i9 + (1 : Int32)) < 0 ∨ 13 ≤ tn (i9 + (1 : Int32))) then (((if (j11 = (0 : Int32)) then some (u2 (u2 j43.1 102 (tn (i9 + (1 : Int32))) j45) 103 (tn (i9 + (1 : Int32))) j43.2.2.2) else (if (j43.2.2.2 < (j43.1 89 6)) then some (u2 (u2 j43.1 102 (tn (i9 + (1 : Int32))) j45) 103 (tn (i9 + (1 : Int32))) j43.2.2.2) else (Option.bind (f_X12_living N ρ (u2 (u2 j43.1 102 (tn (i9 + (1 : Int32))) j45) 103 (tn (i9 + (1 : Int32))) j43.2.2.2) J (i9 + (1 : Int32))) fun v48 => (if (v48 ≤ (0 : Int32)) then some (u2 (u2 j43.1 102 (tn (i9 + (1 : Int32))) j45) 103 (tn (i9 + (1 : Int32))) j43.2.2.2) else some (u2 (u2 (u2 j43.1 102 (tn (i9 + (1 : Int32))) j45) 103 (tn (i9 + (1 : Int32))) j43.2.2.2) 89 23 i9))))) : Option ((Nat → Nat → Int32))).bind fun j49 => f_X12_goes_72 N J ρ p1 p2 p3 n j49 j43.2.1 (i9 + (1 : Int32))) else none) else none)))) else none))) else none)))
theorem l_X12_goes_72 {G : Gd} {d N : Nat} {K : Ah → Option Value → Prop} {J : Nat → Nat → Int64} {ρ : Rh} {p1 : Int32} {p2 : Int32} {p3 : Int32} (hs : Sh ρ) {o : (Nat → Nat → Int32)} : ∀ (n : Nat) (I7 : Nat → Nat → Int32) (i8 : Int32) (i9 : Int32), f_X12_goes_72 N J ρ p1 p2 p3 n I7 i8 i9 = some o → AW G mX12_goes (d + 2) 0 0 K 579 [none, none, none, none, none, none, none, none, none, none, none, none, none, none, none, none, none, none, none] [] (o, J, ρ) → AW G mX12_goes (d + 2) 0 0 K 72 [some (.ref 89), some (.int p1), some (.int p2), some (.int p3), none, some (.int i8), some (.int i9), none, none, none, none, none, none, none, none, none, none, none, none] [] (I7, J, ρ) := by
  intro n
  induction n with
  | zero => intro I7 i8 i9 hf hE; rw [f_X12_goes_72.eq_1] at hf; cases hf
  | succ n ih =>
    intro I7 i8 i9 hf hE
    rw [f_X12_goes_72.eq_2] at hf
    refine AW.iload dX12_goes_72 rfl ?_
    refine AW.aload_n dX12_goes_74 rfl ?_
    refine TW.getI (x := (I7 89 3)) fX12_16_12 hs.k89 rfl dX12_goes_75 ?_
    refine AW.icmp_ge (tgt := 579) dX12_goes_78 (by decide) (fun hc => ?_) (fun hc => ?_)
    · have hf := (if_pos hc).symm.trans hf
      obtain rfl := Option.some.inj hf
      exact AW.weak _ (by exact trivial) hE
    · have hf := (if_neg hc).symm.trans hf
      refine AW.aload_n dX12_goes_81 rfl ?_
      refine TW.getI (x := (I7 89 23)) fX12_222_12 hs.k89 rfl dX12_goes_82 ?_
      refine AW.iconst (v := (-1 : Int32)) dX12_goes_85 (by decide) ?_
      obtain ⟨j11, gj11, hf⟩ := ob_split hf
      have Kj11 : AW G mX12_goes (d + 2) 0 0 K 103 [some (.ref 89), some (.int p1), some (.int p2), some (.int p3), none, some (.int i8), some (.int i9), none, none, none, none, none, none, none, none, none, none, none, none] [.int j11] (I7, J, ρ) := by
        refine AW.istore (ls' := [some (.ref 89), some (.int p1), some (.int p2), some (.int p3), none, some (.int i8), some (.int i9), some (.int j11), none, none, none, none, none, none, none, none, none, none, none]) dX12_goes_103 (Nat.le_of_ble_eq_true rfl) rfl ?_
        refine AW.aload_n dX12_goes_105 rfl ?_
        refine TW.getR fX12_62_12 hs.k89 (rf_some hs.r89_21) dX12_goes_106 ?_
        refine AW.iload dX12_goes_109 rfl ?_
        obtain ⟨h12, hf⟩ := gd_split hf
        refine TW.iald (x := (I7 102 (tn i9))) hs.k102 h12 rfl dX12_goes_111 ?_
        refine AW.iload dX12_goes_112 rfl ?_
        obtain ⟨j14, gj14, hf⟩ := ob_split hf
        have Kj14 : AW G mX12_goes (d + 2) 0 0 K 128 [some (.ref 89), some (.int p1), some (.int p2), some (.int p3), none, some (.int i8), some (.int i9), some (.int j11), none, none, none, none, none, none, none, none, none, none, none] [.int j14, .int (I7 102 (tn i9))] (I7, J, ρ) := by
          refine AW.iadd dX12_goes_128 ?_
          refine AW.istore (ls' := [some (.ref 89), some (.int p1), some (.int p2), some (.int p3), none, some (.int i8), some (.int i9), some (.int j11), some (.int ((I7 102 (tn i9)) + j14)), none, none, none, none, none, none, none, none, none, none]) dX12_goes_129 (Nat.le_of_ble_eq_true rfl) rfl ?_
          refine AW.iload dX12_goes_131 rfl ?_
          refine AW.sipush (v := (9999 : Int32)) dX12_goes_133 (by decide) ?_
          obtain ⟨j15, gj15, hf⟩ := ob_split hf
          have Kj15 : AW G mX12_goes (d + 2) 0 0 K 147 [some (.ref 89), some (.int p1), some (.int p2), some (.int p3), none, some (.int i8), some (.int i9), some (.int j11), none, none, none, none, none, none, none, none, none, none, none] [.int j15] (I7, J, ρ) := by
            refine AW.istore (ls' := [some (.ref 89), some (.int p1), some (.int p2), some (.int p3), none, some (.int i8), some (.int i9), some (.int j11), some (.int j15), none, none, none, none, none, none, none, none, none, none]) dX12_goes_147 (Nat.le_of_ble_eq_true rfl) rfl ?_
            refine AW.aload_n dX12_goes_149 rfl ?_
            refine TW.getR fX12_65_12 hs.k89 (rf_some hs.r89_22) dX12_goes_150 ?_
            refine AW.iload dX12_goes_153 rfl ?_
            obtain ⟨h16, hf⟩ := gd_split hf
            refine TW.iald (x := (I7 103 (tn i9))) hs.k103 h16 rfl dX12_goes_155 ?_
            refine AW.istore (ls' := [some (.ref 89), some (.int p1), some (.int p2), some (.int p3), none, some (.int i8), some (.int i9), some (.int j11), some (.int j15), some (.int (I7 103 (tn i9))), none, none, none, none, none, none, none, none, none]) dX12_goes_156 (Nat.le_of_ble_eq_true rfl) rfl ?_
            refine AW.aload_n dX12_goes_158 rfl ?_
            refine TW.getI (x := (I7 89 5)) fX12_23_12 hs.k89 rfl dX12_goes_159 ?_
            refine AW.istore (ls' := [some (.ref 89), some (.int p1), some (.int p2), some (.int p3), none, some (.int i8), some (.int i9), some (.int j11), some (.int j15), some (.int (I7 103 (tn i9))), some (.int (I7 89 5)), none, none, none, none, none, none, none, none]) dX12_goes_162 (Nat.le_of_ble_eq_true rfl) rfl ?_
            refine AW.aload_n dX12_goes_164 rfl ?_
            refine AW.iload dX12_goes_165 rfl ?_
            refine AW.iload_n dX12_goes_167 rfl ?_
            obtain ⟨v17, gv17, hf⟩ := ob_split hf
            refine TW.invv (as := [.int i9, .int p2]) (rest := []) viX12_228_12 hs.k89 dX12_goes_168 rfl rfl (Nat.le_of_ble_eq_true rfl) (c_X12_drinkers hs gv17 ?_)
            show AW G mX12_goes (d + 2) 0 0 K 171 [some (.ref 89), some (.int p1), some (.int p2), some (.int p3), none, some (.int i8), some (.int i9), some (.int j11), some (.int j15), some (.int (I7 103 (tn i9))), some (.int (I7 89 5)), none, none, none, none, none, none, none, none] [.int v17] (I7, J, ρ)
            refine AW.istore (ls' := [some (.ref 89), some (.int p1), some (.int p2), some (.int p3), none, some (.int i8), some (.int i9), some (.int j11), some (.int j15), some (.int (I7 103 (tn i9))), some (.int (I7 89 5)), some (.int v17), none, none, none, none, none, none, none]) dX12_goes_171 (Nat.le_of_ble_eq_true rfl) rfl ?_
            refine AW.iconst (v := (0 : Int32)) dX12_goes_173 (by decide) ?_
            refine AW.istore (ls' := [some (.ref 89), some (.int p1), some (.int p2), some (.int p3), none, some (.int i8), some (.int i9), some (.int j11), some (.int j15), some (.int (I7 103 (tn i9))), some (.int (I7 89 5)), some (.int v17), some (.int (0 : Int32)), none, none, none, none, none, none]) dX12_goes_174 (Nat.le_of_ble_eq_true rfl) rfl ?_
            refine AW.iconst (v := (0 : Int32)) dX12_goes_176 (by decide) ?_
            refine AW.istore (ls' := [some (.ref 89), some (.int p1), some (.int p2), some (.int p3), none, some (.int i8), some (.int i9), some (.int j11), some (.int j15), some (.int (I7 103 (tn i9))), some (.int (I7 89 5)), some (.int v17), some (.int (0 : Int32)), some (.int (0 : Int32)), none, none, none, none, none]) dX12_goes_177 (Nat.le_of_ble_eq_true rfl) rfl ?_
            obtain ⟨j43, gj43, hf⟩ := ob_split hf
            refine AW.weak _ (by exact (And.intro rfl (And.intro rfl (And.intro rfl (And.intro rfl (And.intro rfl (And.intro rfl (And.intro rfl (And.intro rfl (And.intro rfl (And.intro rfl (And.intro rfl (And.intro rfl (And.intro rfl trivial)))))))))))))) (l_X12_goes_179 hs N I7 i8 j15 (I7 103 (tn i9)) (I7 89 5) (0 : Int32) (0 : Int32) gj43 ?_)
            show AW G mX12_goes (d + 2) 0 0 K 505 [some (.ref 89), some (.int p1), some (.int p2), some (.int p3), none, some (.int j43.2.1), some (.int i9), some (.int j11), some (.int j43.2.2.1), some (.int j43.2.2.2), none, none, none, none, none, none, none, none, none] [] (j43.1, J, ρ)
            refine AW.aload_n dX12_goes_505 rfl ?_
            refine TW.getR fX12_62_12 hs.k89 (rf_some hs.r89_21) dX12_goes_506 ?_
            refine AW.iload dX12_goes_509 rfl ?_
            refine AW.iconst (v := (1 : Int32)) dX12_goes_511 (by decide) ?_
            refine AW.iadd dX12_goes_512 ?_
            refine AW.iload dX12_goes_513 rfl ?_
            obtain ⟨j45, gj45, hf⟩ := ob_split hf
            have Kj45 : AW G mX12_goes (d + 2) 0 0 K 530 [some (.ref 89), some (.int p1), some (.int p2), some (.int p3), none, some (.int j43.2.1), some (.int i9), some (.int j11), none, some (.int j43.2.2.2), none, none, none, none, none, none, none, none, none] [.int j45, .int (i9 + (1 : Int32)), .ref 102] (j43.1, J, ρ) := by
              obtain ⟨h46, hf⟩ := gd_split hf
              refine TW.iast hs.k102 h46 dX12_goes_530 ?_
              show AW G mX12_goes (d + 2) 0 0 K 531 [some (.ref 89), some (.int p1), some (.int p2), some (.int p3), none, some (.int j43.2.1), some (.int i9), some (.int j11), none, some (.int j43.2.2.2), none, none, none, none, none, none, none, none, none] [] ((u2 j43.1 102 (tn (i9 + (1 : Int32))) j45), J, ρ)
              refine AW.aload_n dX12_goes_531 rfl ?_
              refine TW.getR fX12_65_12 hs.k89 (rf_some hs.r89_22) dX12_goes_532 ?_
              refine AW.iload dX12_goes_535 rfl ?_
              refine AW.iconst (v := (1 : Int32)) dX12_goes_537 (by decide) ?_
              refine AW.iadd dX12_goes_538 ?_
              refine AW.iload dX12_goes_539 rfl ?_
              obtain ⟨h47, hf⟩ := gd_split hf
              refine TW.iast hs.k103 h47 dX12_goes_541 ?_
              show AW G mX12_goes (d + 2) 0 0 K 542 [some (.ref 89), some (.int p1), some (.int p2), some (.int p3), none, some (.int j43.2.1), some (.int i9), some (.int j11), none, some (.int j43.2.2.2), none, none, none, none, none, none, none, none, none] [] ((u2 (u2 j43.1 102 (tn (i9 + (1 : Int32))) j45) 103 (tn (i9 + (1 : Int32))) j43.2.2.2), J, ρ)
              refine AW.iload dX12_goes_542 rfl ?_
              obtain ⟨j49, gj49, hf⟩ := ob_split hf
              have Kj49 : AW G mX12_goes (d + 2) 0 0 K 573 [some (.ref 89), some (.int p1), some (.int p2), some (.int p3), none, some (.int j43.2.1), some (.int i9), none, none, none, none, none, none, none, none, none, none, none, none] [] (j49, J, ρ) := by
                refine AW.iinc (v := (i9 + (1 : Int32))) (ls' := [some (.ref 89), some (.int p1), some (.int p2), some (.int p3), none, some (.int j43.2.1), some (.int (i9 + (1 : Int32))), none, none, none, none, none, none, none, none, none, none, none, none]) dX12_goes_573 rfl rfl (Nat.le_of_ble_eq_true rfl) rfl ?_
                refine AW.goto (tgt := 72) dX12_goes_576 (by decide) ?_
                exact AW.weak _ (by exact (And.intro rfl (And.intro rfl (And.intro rfl (And.intro rfl (And.intro rfl (And.intro rfl trivial))))))) (ih j49 j43.2.1 (i9 + (1 : Int32)) hf hE)
              clear hf; have hf := gj49; clear gj49
              refine AW.if_eq (tgt := 573) dX12_goes_544 (by decide) (fun hc => ?_) (fun hc => ?_)
              · have hf := (if_pos hc).symm.trans hf
                obtain rfl := Option.some.inj hf
                exact AW.weak _ (by exact (And.intro rfl (And.intro rfl (And.intro rfl (And.intro rfl (And.intro rfl (And.intro rfl trivial))))))) Kj49
              · have hf := (if_neg hc).symm.trans hf
                refine AW.iload dX12_goes_547 rfl ?_
                refine AW.aload_n dX12_goes_549 rfl ?_
                refine TW.getI (x := (j43.1 89 6)) fX12_26_12 hs.k89 ((u2_ne (by decide)).trans (u2_ne (by decide))) dX12_goes_550 ?_
                refine AW.icmp_lt (tgt := 573) dX12_goes_553 (by decide) (fun hc => ?_) (fun hc => ?_)
                · have hf := (if_pos hc).symm.trans hf
                  obtain rfl := Option.some.inj hf
                  exact AW.weak _ (by exact (And.intro rfl (And.intro rfl (And.intro rfl (And.intro rfl (And.intro rfl (And.intro rfl trivial))))))) Kj49
                · have hf := (if_neg hc).symm.trans hf
                  refine AW.aload_n dX12_goes_556 rfl ?_
                  refine AW.iload dX12_goes_557 rfl ?_
                  refine AW.iconst (v := (1 : Int32)) dX12_goes_559 (by decide) ?_
                  refine AW.iadd dX12_goes_560 ?_
                  obtain ⟨v48, gv48, hf⟩ := ob_split hf
                  refine TW.invv (as := [.int (i9 + (1 : Int32))]) (rest := []) viX12_225_12 hs.k89 dX12_goes_561 rfl rfl (Nat.le_of_ble_eq_true rfl) (c_X12_living hs gv48 ?_)
                  show AW G mX12_goes (d + 2) 0 0 K 564 [some (.ref 89), some (.int p1), some (.int p2), some (.int p3), none, some (.int j43.2.1), some (.int i9), some (.int j11), none, some (.int j43.2.2.2), none, none, none, none, none, none, none, none, none] [.int v48] ((u2 (u2 j43.1 102 (tn (i9 + (1 : Int32))) j45) 103 (tn (i9 + (1 : Int32))) j43.2.2.2), J, ρ)
                  refine AW.if_le (tgt := 573) dX12_goes_564 (by decide) (fun hc => ?_) (fun hc => ?_)
                  · have hf := (if_pos hc).symm.trans hf
                    obtain rfl := Option.some.inj hf
                    exact AW.weak _ (by exact (And.intro rfl (And.intro rfl (And.intro rfl (And.intro rfl (And.intro rfl (And.intro rfl trivial))))))) Kj49
                  · have hf := (if_neg hc).symm.trans hf
                    refine AW.aload_n dX12_goes_567 rfl ?_
                    refine AW.iload dX12_goes_568 rfl ?_
                    refine TW.putI fX12_222_12 hs.k89 (Or.inl rfl) dX12_goes_570 ?_
                    show AW G mX12_goes (d + 2) 0 0 K 573 [some (.ref 89), some (.int p1), some (.int p2), some (.int p3), none, some (.int j43.2.1), some (.int i9), some (.int j11), none, some (.int j43.2.2.2), none, none, none, none, none, none, none, none, none] [] ((u2 (u2 (u2 j43.1 102 (tn (i9 + (1 : Int32))) j45) 103 (tn (i9 + (1 : Int32))) j43.2.2.2) 89 23 i9), J, ρ)
                    obtain rfl := Option.some.inj hf
                    exact AW.weak _ (by exact (And.intro rfl (And.intro rfl (And.intro rfl (And.intro rfl (And.intro rfl (And.intro rfl trivial))))))) Kj49
            clear hf; have hf := gj45; clear gj45
            refine AW.if_eq (tgt := 523) dX12_goes_515 (by decide) (fun hc => ?_) (fun hc => ?_)
            · have hf := (if_pos hc).symm.trans hf
              refine AW.aload_n dX12_goes_523 rfl ?_
              refine TW.getR fX12_62_12 hs.k89 (rf_some hs.r89_21) dX12_goes_524 ?_
              refine AW.iload dX12_goes_527 rfl ?_
              obtain ⟨h44, hf⟩ := gd_split hf
              refine TW.iald (x := (j43.1 102 (tn i9))) hs.k102 h44 rfl dX12_goes_529 ?_
              obtain rfl := Option.some.inj hf
              exact AW.weak _ (by exact (And.intro rfl (And.intro rfl (And.intro rfl (And.intro rfl (And.intro rfl (And.intro rfl (And.intro rfl (And.intro rfl trivial))))))))) Kj45
            · have hf := (if_neg hc).symm.trans hf
              refine AW.iload dX12_goes_518 rfl ?_
              refine AW.goto (tgt := 530) dX12_goes_520 (by decide) ?_
              obtain rfl := Option.some.inj hf
              exact AW.weak _ (by exact (And.intro rfl (And.intro rfl (And.intro rfl (And.intro rfl (And.intro rfl (And.intro rfl (And.intro rfl (And.intro rfl trivial))))))))) Kj45
          clear hf; have hf := gj15; clear gj15
          refine AW.icmp_le (tgt := 145) dX12_goes_136 (by decide) (fun hc => ?_) (fun hc => ?_)
          · have hf := (if_pos hc).symm.trans hf
            refine AW.iload dX12_goes_145 rfl ?_
            obtain rfl := Option.some.inj hf
            exact AW.weak _ (by exact (And.intro rfl (And.intro rfl (And.intro rfl (And.intro rfl (And.intro rfl (And.intro rfl (And.intro rfl trivial)))))))) Kj15
          · have hf := (if_neg hc).symm.trans hf
            refine AW.sipush (v := (9999 : Int32)) dX12_goes_139 (by decide) ?_
            refine AW.goto (tgt := 147) dX12_goes_142 (by decide) ?_
            obtain rfl := Option.some.inj hf
            exact AW.weak _ (by exact (And.intro rfl (And.intro rfl (And.intro rfl (And.intro rfl (And.intro rfl (And.intro rfl (And.intro rfl trivial)))))))) Kj15
        clear hf; have hf := gj14; clear gj14
        refine AW.if_eq (tgt := 127) dX12_goes_114 (by decide) (fun hc => ?_) (fun hc => ?_)
        · have hf := (if_pos hc).symm.trans hf
          refine AW.iconst (v := (0 : Int32)) dX12_goes_127 (by decide) ?_
          obtain rfl := Option.some.inj hf
          exact AW.weak _ (by exact (And.intro rfl (And.intro rfl (And.intro rfl (And.intro rfl (And.intro rfl (And.intro rfl (And.intro rfl trivial)))))))) Kj14
        · have hf := (if_neg hc).symm.trans hf
          refine AW.aload_n dX12_goes_117 rfl ?_
          refine TW.getR fX12_32_12 hs.k89 (rf_some hs.r89_8) dX12_goes_118 ?_
          refine AW.iload dX12_goes_121 rfl ?_
          obtain ⟨h13, hf⟩ := gd_split hf
          refine TW.iald (x := (I7 93 (tn i9))) hs.k93 h13 rfl dX12_goes_123 ?_
          refine AW.goto (tgt := 128) dX12_goes_124 (by decide) ?_
          obtain rfl := Option.some.inj hf
          exact AW.weak _ (by exact (And.intro rfl (And.intro rfl (And.intro rfl (And.intro rfl (And.intro rfl (And.intro rfl (And.intro rfl trivial)))))))) Kj14
      clear hf; have hf := gj11; clear gj11
      refine AW.icmp_ne (tgt := 102) dX12_goes_86 (by decide) (fun hc => ?_) (fun hc => ?_)
      · have hf := (if_neg hc).symm.trans hf
        refine AW.iconst (v := (0 : Int32)) dX12_goes_102 (by decide) ?_
        obtain rfl := Option.some.inj hf
        exact AW.weak _ (by exact (And.intro rfl (And.intro rfl (And.intro rfl (And.intro rfl (And.intro rfl (And.intro rfl trivial))))))) Kj11
      · have hf := (if_pos hc).symm.trans hf
        refine AW.aload_n dX12_goes_89 rfl ?_
        refine AW.iload dX12_goes_90 rfl ?_
        obtain ⟨v10, gv10, hf⟩ := ob_split hf
        refine TW.invv (as := [.int i9]) (rest := []) viX12_225_12 hs.k89 dX12_goes_92 rfl rfl (Nat.le_of_ble_eq_true rfl) (c_X12_living hs gv10 ?_)
        show AW G mX12_goes (d + 2) 0 0 K 95 [some (.ref 89), some (.int p1), some (.int p2), some (.int p3), none, some (.int i8), some (.int i9), none, none, none, none, none, none, none, none, none, none, none, none] [.int v10] (I7, J, ρ)
        refine AW.if_le (tgt := 102) dX12_goes_95 (by decide) (fun hc => ?_) (fun hc => ?_)
        · have hf := (if_pos hc).symm.trans hf
          refine AW.iconst (v := (0 : Int32)) dX12_goes_102 (by decide) ?_
          obtain rfl := Option.some.inj hf
          exact AW.weak _ (by exact (And.intro rfl (And.intro rfl (And.intro rfl (And.intro rfl (And.intro rfl (And.intro rfl trivial))))))) Kj11
        · have hf := (if_neg hc).symm.trans hf
          refine AW.iconst (v := (1 : Int32)) dX12_goes_98 (by decide) ?_
          refine AW.goto (tgt := 103) dX12_goes_99 (by decide) ?_
          obtain rfl := Option.some.inj hf
          exact AW.weak _ (by exact (And.intro rfl (And.intro rfl (And.intro rfl (And.intro rfl (And.intro rfl (And.intro rfl trivial))))))) Kj11
def f_X12_goes (N : Nat) (ρ : Rh) (I : Nat → Nat → Int32) (J : Nat → Nat → Int64) (p1 : Int32) (p2 : Int32) (p3 : Int32) (p4 : Int32) : Option ((Nat → Nat → Int32)) := ((f_X12_goes_7 N J ρ p1 p2 p3 p4 N I (0 : Int32)).bind fun j6 => ((f_X12_goes_72 N J ρ p1 p2 p3 N (u2 (u2 (u2 j6 102 0 (j6 89 4)) 103 0 (0 : Int32)) 89 23 (-1 : Int32)) p4 (0 : Int32)).bind fun j50 => some j50))
theorem c_X12_goes {G : Gd} {d N : Nat} {K : Ah → Option Value → Prop} {ρ : Rh} {I : Nat → Nat → Int32} {J : Nat → Nat → Int64} {p1 : Int32} {p2 : Int32} {p3 : Int32} {p4 : Int32} {o : (Nat → Nat → Int32)} (hs : Sh ρ) (hf : f_X12_goes N ρ I J p1 p2 p3 p4 = some o) (hK : K (o, J, ρ) none) : AM G (d + 2) 0 0 mX12_goes [.ref 89, .int p1, .int p2, .int p3, .int p4] (I, J, ρ) K := by
  unfold f_X12_goes at hf
  refine AM.intro okX12_goes.2.2.2.1 (Nat.le_of_ble_eq_true rfl) [some (.ref 89), some (.int p1), some (.int p2), some (.int p3), some (.int p4), none, none, none, none, none, none, none, none, none, none, none, none, none, none] rfl ?_
  refine AW.iload dX12_goes_0 rfl ?_
  refine AW.istore (ls' := [some (.ref 89), some (.int p1), some (.int p2), some (.int p3), some (.int p4), some (.int p4), none, none, none, none, none, none, none, none, none, none, none, none, none]) dX12_goes_2 (Nat.le_of_ble_eq_true rfl) rfl ?_
  refine AW.iconst (v := (0 : Int32)) dX12_goes_4 (by decide) ?_
  refine AW.istore (ls' := [some (.ref 89), some (.int p1), some (.int p2), some (.int p3), some (.int p4), some (.int p4), some (.int (0 : Int32)), none, none, none, none, none, none, none, none, none, none, none, none]) dX12_goes_5 (Nat.le_of_ble_eq_true rfl) rfl ?_
  obtain ⟨j6, gj6, hf⟩ := ob_split hf
  refine AW.weak _ (by exact (And.intro rfl (And.intro rfl (And.intro rfl (And.intro rfl (And.intro rfl (And.intro rfl trivial))))))) (l_X12_goes_7 hs N I (0 : Int32) gj6 ?_)
  show AW G mX12_goes (d + 2) 0 0 K 47 [some (.ref 89), some (.int p1), some (.int p2), some (.int p3), none, some (.int p4), none, none, none, none, none, none, none, none, none, none, none, none, none] [] (j6, J, ρ)
  refine AW.aload_n dX12_goes_47 rfl ?_
  refine TW.getR fX12_62_12 hs.k89 (rf_some hs.r89_21) dX12_goes_48 ?_
  refine AW.iconst (v := (0 : Int32)) dX12_goes_51 (by decide) ?_
  refine AW.aload_n dX12_goes_52 rfl ?_
  refine TW.getI (x := (j6 89 4)) fX12_20_12 hs.k89 rfl dX12_goes_53 ?_
  refine TW.iast hs.k102 (show ¬ ((0 : Int32) < 0 ∨ 13 ≤ (0 : Int32).toNatClampNeg) by decide) dX12_goes_56 ?_
  show AW G mX12_goes (d + 2) 0 0 K 57 [some (.ref 89), some (.int p1), some (.int p2), some (.int p3), none, some (.int p4), none, none, none, none, none, none, none, none, none, none, none, none, none] [] ((u2 j6 102 0 (j6 89 4)), J, ρ)
  refine AW.aload_n dX12_goes_57 rfl ?_
  refine TW.getR fX12_65_12 hs.k89 (rf_some hs.r89_22) dX12_goes_58 ?_
  refine AW.iconst (v := (0 : Int32)) dX12_goes_61 (by decide) ?_
  refine AW.iconst (v := (0 : Int32)) dX12_goes_62 (by decide) ?_
  refine TW.iast hs.k103 (show ¬ ((0 : Int32) < 0 ∨ 13 ≤ (0 : Int32).toNatClampNeg) by decide) dX12_goes_63 ?_
  show AW G mX12_goes (d + 2) 0 0 K 64 [some (.ref 89), some (.int p1), some (.int p2), some (.int p3), none, some (.int p4), none, none, none, none, none, none, none, none, none, none, none, none, none] [] ((u2 (u2 j6 102 0 (j6 89 4)) 103 0 (0 : Int32)), J, ρ)
  refine AW.aload_n dX12_goes_64 rfl ?_
  refine AW.iconst (v := (-1 : Int32)) dX12_goes_65 (by decide) ?_
  refine TW.putI fX12_222_12 hs.k89 (Or.inl rfl) dX12_goes_66 ?_
  show AW G mX12_goes (d + 2) 0 0 K 69 [some (.ref 89), some (.int p1), some (.int p2), some (.int p3), none, some (.int p4), none, none, none, none, none, none, none, none, none, none, none, none, none] [] ((u2 (u2 (u2 j6 102 0 (j6 89 4)) 103 0 (0 : Int32)) 89 23 (-1 : Int32)), J, ρ)
  refine AW.iconst (v := (0 : Int32)) dX12_goes_69 (by decide) ?_
  refine AW.istore (ls' := [some (.ref 89), some (.int p1), some (.int p2), some (.int p3), none, some (.int p4), some (.int (0 : Int32)), none, none, none, none, none, none, none, none, none, none, none, none]) dX12_goes_70 (Nat.le_of_ble_eq_true rfl) rfl ?_
  obtain ⟨j50, gj50, hf⟩ := ob_split hf
  refine AW.weak _ (by exact (And.intro rfl (And.intro rfl (And.intro rfl (And.intro rfl (And.intro rfl (And.intro rfl trivial))))))) (l_X12_goes_72 hs N (u2 (u2 (u2 j6 102 0 (j6 89 4)) 103 0 (0 : Int32)) 89 23 (-1 : Int32)) p4 (0 : Int32) gj50 ?_)
  show AW G mX12_goes (d + 2) 0 0 K 579 [none, none, none, none, none, none, none, none, none, none, none, none, none, none, none, none, none, none, none] [] (j50, J, ρ)
  obtain rfl := Option.some.inj hf
  exact AW.vret (st := []) dX12_goes_579 rfl hK
