/-! ===== methods 15.text 2 ===== -/
def f_X8_skip (N : Nat) (ρ : Rh) (I : Nat → Nat → Int32) (J : Nat → Nat → Int64) (p1 : Int32) : Option ((Nat → Nat → Int32) × Int32) := (if ((I 35 5) = p1) then (Option.bind (f_X8_next N ρ I J) fun v1 => some (v1, (1 : Int32))) else some (I, (0 : Int32)))
theorem c_X8_skip {G : Gd} {d N : Nat} {K : Ah → Option Value → Prop} {ρ : Rh} {I : Nat → Nat → Int32} {J : Nat → Nat → Int64} {p1 : Int32} {o : (Nat → Nat → Int32) × Int32} (hs : Sh ρ) (hf : f_X8_skip N ρ I J p1 = some o) (hK : K (o.1, J, ρ) (some (.int o.2))) : AM G (d + 7) 0 0 mX8_skip [.ref 35, .int p1] (I, J, ρ) K := by
  unfold f_X8_skip at hf
  refine AM.intro okX8_skip.2.2.2.1 (Nat.le_of_ble_eq_true rfl) [some (.ref 35), some (.int p1)] rfl ?_
  refine AW.aload_n dX8_skip_0 rfl ?_
  refine TW.getI (x := (I 35 5)) fX8_43_8 hs.k35 rfl dX8_skip_1 ?_
  refine AW.iload_n dX8_skip_4 rfl ?_
  refine AW.icmp_eq (tgt := 10) dX8_skip_5 (by decide) (fun hc => ?_) (fun hc => ?_)
  · have hf := (if_pos hc).symm.trans hf
    refine AW.aload_n dX8_skip_10 rfl ?_
    obtain ⟨v1, gv1, hf⟩ := ob_split hf
    refine TW.invv (as := []) (rest := []) viX8_32_8 hs.k35 dX8_skip_11 rfl rfl (Nat.le_of_ble_eq_true rfl) (c_X8_next hs gv1 ?_)
    show AW G mX8_skip (d + 7) 0 0 K 14 [some (.ref 35), some (.int p1)] [] (v1, J, ρ)
    refine AW.iconst (v := (1 : Int32)) dX8_skip_14 (by decide) ?_
    obtain rfl := Option.some.inj hf
    exact AW.zret (st := []) dX8_skip_15 rfl (Or.inr rfl) hK
  · have hf := (if_neg hc).symm.trans hf
    refine AW.iconst (v := (0 : Int32)) dX8_skip_8 (by decide) ?_
    obtain rfl := Option.some.inj hf
    exact AW.zret (st := []) dX8_skip_9 rfl (Or.inl rfl) hK
def f_X8_put (N : Nat) (ρ : Rh) (I : Nat → Nat → Int32) (J : Nat → Nat → Int64) (p1 : Int32) : Option ((Nat → Nat → Int32) × Int32) := (if ((I 35 3) < (160 : Int32)) then (if ¬ ((I 35 3) < 0 ∨ 160 ≤ tn (I 35 3)) then some ((u2 (u2 I 37 (tn (I 35 3)) p1) 35 3 ((I 35 3) + (1 : Int32))), (1 : Int32)) else none) else some (I, (0 : Int32)))
theorem c_X8_put {G : Gd} {d N : Nat} {K : Ah → Option Value → Prop} {ρ : Rh} {I : Nat → Nat → Int32} {J : Nat → Nat → Int64} {p1 : Int32} {o : (Nat → Nat → Int32) × Int32} (hs : Sh ρ) (hf : f_X8_put N ρ I J p1 = some o) (hK : K (o.1, J, ρ) (some (.int o.2))) : AM G d 0 0 mX8_put [.ref 35, .int p1] (I, J, ρ) K := by
  unfold f_X8_put at hf
  refine AM.intro okX8_put.2.2.2.1 (Nat.le_of_ble_eq_true rfl) [some (.ref 35), some (.int p1)] rfl ?_
  refine AW.aload_n dX8_put_0 rfl ?_
  refine TW.getI (x := (I 35 3)) fX8_23_8 hs.k35 rfl dX8_put_1 ?_
  refine AW.sipush (v := (160 : Int32)) dX8_put_4 (by decide) ?_
  refine AW.icmp_lt (tgt := 12) dX8_put_7 (by decide) (fun hc => ?_) (fun hc => ?_)
  · have hf := (if_pos hc).symm.trans hf
    refine AW.aload_n dX8_put_12 rfl ?_
    refine TW.getR fX8_15_8 hs.k35 (rf_some hs.r35_2) dX8_put_13 ?_
    refine AW.aload_n dX8_put_16 rfl ?_
    refine TW.getI (x := (I 35 3)) fX8_23_8 hs.k35 rfl dX8_put_17 ?_
    refine AW.iload_n dX8_put_20 rfl ?_
    obtain ⟨h1, hf⟩ := gd_split hf
    refine TW.iast hs.k37 h1 dX8_put_21 ?_
    show AW G mX8_put d 0 0 K 22 [some (.ref 35), some (.int p1)] [] ((u2 I 37 (tn (I 35 3)) p1), J, ρ)
    refine AW.aload_n dX8_put_22 rfl ?_
    refine AW.dup dX8_put_23 rfl ?_
    refine TW.getI (x := (I 35 3)) fX8_23_8 hs.k35 (u2_ne (by decide)) dX8_put_24 ?_
    refine AW.iconst (v := (1 : Int32)) dX8_put_27 (by decide) ?_
    refine AW.iadd dX8_put_28 ?_
    refine TW.putI fX8_23_8 hs.k35 (Or.inl rfl) dX8_put_29 ?_
    show AW G mX8_put d 0 0 K 32 [some (.ref 35), some (.int p1)] [] ((u2 (u2 I 37 (tn (I 35 3)) p1) 35 3 ((I 35 3) + (1 : Int32))), J, ρ)
    refine AW.iconst (v := (1 : Int32)) dX8_put_32 (by decide) ?_
    obtain rfl := Option.some.inj hf
    exact AW.zret (st := []) dX8_put_33 rfl (Or.inr rfl) hK
  · have hf := (if_neg hc).symm.trans hf
    refine AW.iconst (v := (0 : Int32)) dX8_put_10 (by decide) ?_
    obtain rfl := Option.some.inj hf
    exact AW.zret (st := []) dX8_put_11 rfl (Or.inl rfl) hK
theorem z_X8_put {N : Nat} {ρ : Rh} {I : Nat → Nat → Int32} {J : Nat → Nat → Int64} {p1 : Int32} {o : (Nat → Nat → Int32) × Int32} (hf : f_X8_put N ρ I J p1 = some o) : o.2 = 0 ∨ o.2 = 1 := by
  unfold f_X8_put at hf
  repeat' split at hf
  all_goals first | (obtain rfl := Option.some.inj hf; first | exact Or.inl rfl | exact Or.inr rfl) | cases hf
def f_X8_tightnessOf (N : Nat) (ρ : Rh) (I : Nat → Nat → Int32) (J : Nat → Nat → Int64) (p1 : Int32) : Option (Int32) := (if p1 = (-15 : Int32) then some (4 : Int32) else (if p1 = (-14 : Int32) then some (3 : Int32) else (if p1 = (-13 : Int32) then some (3 : Int32) else (if p1 = (-12 : Int32) then some (2 : Int32) else (if p1 = (-11 : Int32) then some (2 : Int32) else (if p1 = (-10 : Int32) then some (1 : Int32) else (if p1 = (-9 : Int32) then some (0 : Int32) else some (-1 : Int32))))))))
theorem c_X8_tightnessOf {G : Gd} {d N : Nat} {K : Ah → Option Value → Prop} {ρ : Rh} {I : Nat → Nat → Int32} {J : Nat → Nat → Int64} {p1 : Int32} {o : Int32} (hs : Sh ρ) (hf : f_X8_tightnessOf N ρ I J p1 = some o) (hK : K (I, J, ρ) (some (.int o))) : AM G d 0 0 mX8_tightnessOf [.int p1] (I, J, ρ) K := by
  unfold f_X8_tightnessOf at hf
  refine AM.intro okX8_tightnessOf.2.2.2.1 (Nat.le_of_ble_eq_true rfl) [some (.int p1)] rfl ?_
  refine AW.iload_n dX8_tightnessOf_0 rfl ?_
  by_cases hcm15 : p1 = (-15 : Int32)
  · have hf := (if_pos hcm15).symm.trans hf
    refine AW.swIn (tgt := 52) dX8_tightnessOf_1 (by rw [hcm15]; decide) (by rw [hcm15]; decide) (by rw [hcm15]; rfl) (by decide) ?_
    refine AW.iconst (v := (4 : Int32)) dX8_tightnessOf_52 (by decide) ?_
    obtain rfl := Option.some.inj hf
    exact AW.iret (st := []) dX8_tightnessOf_53 rfl hK
  have hf := (if_neg hcm15).symm.trans hf
  by_cases hcm14 : p1 = (-14 : Int32)
  · have hf := (if_pos hcm14).symm.trans hf
    refine AW.swIn (tgt := 50) dX8_tightnessOf_1 (by rw [hcm14]; decide) (by rw [hcm14]; decide) (by rw [hcm14]; rfl) (by decide) ?_
    refine AW.iconst (v := (3 : Int32)) dX8_tightnessOf_50 (by decide) ?_
    obtain rfl := Option.some.inj hf
    exact AW.iret (st := []) dX8_tightnessOf_51 rfl hK
  have hf := (if_neg hcm14).symm.trans hf
  by_cases hcm13 : p1 = (-13 : Int32)
  · have hf := (if_pos hcm13).symm.trans hf
    refine AW.swIn (tgt := 50) dX8_tightnessOf_1 (by rw [hcm13]; decide) (by rw [hcm13]; decide) (by rw [hcm13]; rfl) (by decide) ?_
    refine AW.iconst (v := (3 : Int32)) dX8_tightnessOf_50 (by decide) ?_
    obtain rfl := Option.some.inj hf
    exact AW.iret (st := []) dX8_tightnessOf_51 rfl hK
  have hf := (if_neg hcm13).symm.trans hf
  by_cases hcm12 : p1 = (-12 : Int32)
  · have hf := (if_pos hcm12).symm.trans hf
    refine AW.swIn (tgt := 48) dX8_tightnessOf_1 (by rw [hcm12]; decide) (by rw [hcm12]; decide) (by rw [hcm12]; rfl) (by decide) ?_
    refine AW.iconst (v := (2 : Int32)) dX8_tightnessOf_48 (by decide) ?_
    obtain rfl := Option.some.inj hf
    exact AW.iret (st := []) dX8_tightnessOf_49 rfl hK
  have hf := (if_neg hcm12).symm.trans hf
  by_cases hcm11 : p1 = (-11 : Int32)
  · have hf := (if_pos hcm11).symm.trans hf
    refine AW.swIn (tgt := 48) dX8_tightnessOf_1 (by rw [hcm11]; decide) (by rw [hcm11]; decide) (by rw [hcm11]; rfl) (by decide) ?_
    refine AW.iconst (v := (2 : Int32)) dX8_tightnessOf_48 (by decide) ?_
    obtain rfl := Option.some.inj hf
    exact AW.iret (st := []) dX8_tightnessOf_49 rfl hK
  have hf := (if_neg hcm11).symm.trans hf
  by_cases hcm10 : p1 = (-10 : Int32)
  · have hf := (if_pos hcm10).symm.trans hf
    refine AW.swIn (tgt := 46) dX8_tightnessOf_1 (by rw [hcm10]; decide) (by rw [hcm10]; decide) (by rw [hcm10]; rfl) (by decide) ?_
    refine AW.iconst (v := (1 : Int32)) dX8_tightnessOf_46 (by decide) ?_
    obtain rfl := Option.some.inj hf
    exact AW.iret (st := []) dX8_tightnessOf_47 rfl hK
  have hf := (if_neg hcm10).symm.trans hf
  by_cases hcm9 : p1 = (-9 : Int32)
  · have hf := (if_pos hcm9).symm.trans hf
    refine AW.swIn (tgt := 44) dX8_tightnessOf_1 (by rw [hcm9]; decide) (by rw [hcm9]; decide) (by rw [hcm9]; rfl) (by decide) ?_
    refine AW.iconst (v := (0 : Int32)) dX8_tightnessOf_44 (by decide) ?_
    obtain rfl := Option.some.inj hf
    exact AW.iret (st := []) dX8_tightnessOf_45 rfl hK
  have hf := (if_neg hcm9).symm.trans hf
  have KD : AW G mX8_tightnessOf d 0 0 K 54 [some (.int p1)] [] (I, J, ρ) := by
    refine AW.iconst (v := (-1 : Int32)) dX8_tightnessOf_54 (by decide) ?_
    obtain rfl := Option.some.inj hf
    exact AW.iret (st := []) dX8_tightnessOf_55 rfl hK
  have hcm15 : ¬ (p1).toInt = -15 := fun q => hcm15 (Int32.toInt_inj.mp q)
  have hcm14 : ¬ (p1).toInt = -14 := fun q => hcm14 (Int32.toInt_inj.mp q)
  have hcm13 : ¬ (p1).toInt = -13 := fun q => hcm13 (Int32.toInt_inj.mp q)
  have hcm12 : ¬ (p1).toInt = -12 := fun q => hcm12 (Int32.toInt_inj.mp q)
  have hcm11 : ¬ (p1).toInt = -11 := fun q => hcm11 (Int32.toInt_inj.mp q)
  have hcm10 : ¬ (p1).toInt = -10 := fun q => hcm10 (Int32.toInt_inj.mp q)
  have hcm9 : ¬ (p1).toInt = -9 := fun q => hcm9 (Int32.toInt_inj.mp q)
  exact AW.swOut dX8_tightnessOf_1 (by omega) (by decide) KD
def f_X8_level_94 (N : Nat) (J : Nat → Nat → Int64) (ρ : Rh) (p1 : Int32) (p2 : Int32) (j7 : Int32) (R : Bool → (Nat → Nat → Int32) → Int32 → Int32 → Option ((Nat → Nat → Int32) × Int32)) : Nat → (Nat → Nat → Int32) → Int32 → Option (((Nat → Nat → Int32) × Int32) ⊕ ((Nat → Nat → Int32)))
  | 0, _, _ => none
  | n + 1, I8, i9 => (if (j7 ≤ i9) then some (Sum.inr I8) else (Option.bind (f_X8_tightnessOf N ρ I8 J (I8 35 5)) fun v10 => (if (v10 = p1) then (Option.bind (f_X8_next N ρ I8 J) fun v11 => (Option.bind (R false v11 (p1 + (1 : Int32)) p2) fun v12 => (if (v12.2 = (0 : Int32)) then some (Sum.inl (v12.1, (0 : Int32))) else (Option.bind (f_X8_put N ρ v12.1 J (I8 35 5)) fun v13 => (if (v13.2 = (0 : Int32)) then some (Sum.inl (v13.1, (0 : Int32))) else f_X8_level_94 N J ρ p1 p2 j7 R n v13.1 (i9 + (1 : Int32))))))) else some (Sum.inr I8))))
theorem l_X8_level_94 {G : Gd} {d N : Nat} {K : Ah → Option Value → Prop} {J : Nat → Nat → Int64} {ρ : Rh} {p1 : Int32} {p2 : Int32} {j7 : Int32} {R : Bool → (Nat → Nat → Int32) → Int32 → Int32 → Option ((Nat → Nat → Int32) × Int32)} (hs : Sh ρ) (hR : ∀ {K : Ah → Option Value → Prop} {I : Nat → Nat → Int32} {t o : Int32} {r : (Nat → Nat → Int32) × Int32}, R false I t (o : Int32) = some r → (r.2 = 0 ∨ r.2 = 1 → K (r.1, J, ρ) (some (.int r.2))) → AM G (d + 12) 0 0 mX8_level [.ref 35, .int t, .int o] (I, J, ρ) K) (hR1 : ∀ {K : Ah → Option Value → Prop} {I : Nat → Nat → Int32} {t o : Int32} {r : (Nat → Nat → Int32) × Int32}, R true I t (o : Int32) = some r → (r.2 = 0 ∨ r.2 = 1 → K (r.1, J, ρ) (some (.int r.2))) → AM G (d + 12) 0 0 mX8_one [.ref 35, .int t] (I, J, ρ) K) {o : ((Nat → Nat → Int32) × Int32) ⊕ ((Nat → Nat → Int32))} : ∀ (n : Nat) (I8 : Nat → Nat → Int32) (i9 : Int32), f_X8_level_94 N J ρ p1 p2 j7 R n I8 i9 = some o → scase o (fun r => (r.2 = 0 ∨ r.2 = 1 → K (r.1, J, ρ) (some (.int r.2)))) (fun o => AW G mX8_level (d + 13) 0 0 K 149 [none, none, none, none, none, none] [] (o, J, ρ)) → AW G mX8_level (d + 13) 0 0 K 94 [some (.ref 35), some (.int p1), some (.int p2), some (.int j7), some (.int i9), none] [] (I8, J, ρ) := by
  intro n
  induction n with
  | zero => intro I8 i9 hf hE; rw [f_X8_level_94.eq_1] at hf; cases hf
  | succ n ih =>
    intro I8 i9 hf hE
    rw [f_X8_level_94.eq_2] at hf
    refine AW.iload dX8_level_94 rfl ?_
    refine AW.iload_n dX8_level_96 rfl ?_
    refine AW.icmp_ge (tgt := 149) dX8_level_97 (by decide) (fun hc => ?_) (fun hc => ?_)
    · have hf := (if_pos hc).symm.trans hf
      obtain rfl := Option.some.inj hf
      exact AW.weak _ (by exact trivial) hE
    · have hf := (if_neg hc).symm.trans hf
      refine AW.aload_n dX8_level_100 rfl ?_
      refine TW.getI (x := (I8 35 5)) fX8_43_8 hs.k35 rfl dX8_level_101 ?_
      obtain ⟨v10, gv10, hf⟩ := ob_split hf
      refine TW.invs (as := [.int (I8 35 5)]) (rest := []) stX8_52 dX8_level_104 rfl rfl (Nat.le_of_ble_eq_true rfl) (c_X8_tightnessOf hs gv10 ?_)
      show AW G mX8_level (d + 13) 0 0 K 107 [some (.ref 35), some (.int p1), some (.int p2), some (.int j7), some (.int i9), none] [.int v10] (I8, J, ρ)
      refine AW.iload_n dX8_level_107 rfl ?_
      refine AW.icmp_ne (tgt := 149) dX8_level_108 (by decide) (fun hc => ?_) (fun hc => ?_)
      · have hf := (if_neg hc).symm.trans hf
        obtain rfl := Option.some.inj hf
        exact AW.weak _ (by exact trivial) hE
      · have hf := (if_pos hc).symm.trans hf
        refine AW.aload_n dX8_level_111 rfl ?_
        refine TW.getI (x := (I8 35 5)) fX8_43_8 hs.k35 rfl dX8_level_112 ?_
        refine AW.istore (ls' := [some (.ref 35), some (.int p1), some (.int p2), some (.int j7), some (.int i9), some (.int (I8 35 5))]) dX8_level_115 (Nat.le_of_ble_eq_true rfl) rfl ?_
        refine AW.aload_n dX8_level_117 rfl ?_
        obtain ⟨v11, gv11, hf⟩ := ob_split hf
        refine TW.invv (as := []) (rest := []) viX8_32_8 hs.k35 dX8_level_118 rfl rfl (Nat.le_of_ble_eq_true rfl) (c_X8_next hs gv11 ?_)
        show AW G mX8_level (d + 13) 0 0 K 121 [some (.ref 35), some (.int p1), some (.int p2), some (.int j7), some (.int i9), some (.int (I8 35 5))] [] (v11, J, ρ)
        refine AW.aload_n dX8_level_121 rfl ?_
        refine AW.iload_n dX8_level_122 rfl ?_
        refine AW.iconst (v := (1 : Int32)) dX8_level_123 (by decide) ?_
        refine AW.iadd dX8_level_124 ?_
        refine AW.iload_n dX8_level_125 rfl ?_
        obtain ⟨v12, gv12, hf⟩ := ob_split hf
        refine TW.invv (as := [.int (p1 + (1 : Int32)), .int p2]) (rest := []) viX8_39_8 hs.k35 dX8_level_126 rfl rfl (Nat.le_of_ble_eq_true rfl) (hR gv12 (fun hzv12 => ?_))
        show AW G mX8_level (d + 13) 0 0 K 129 [some (.ref 35), some (.int p1), some (.int p2), some (.int j7), some (.int i9), some (.int (I8 35 5))] [.int v12.2] (v12.1, J, ρ)
        refine AW.if_eq (tgt := 141) dX8_level_129 (by decide) (fun hc => ?_) (fun hc => ?_)
        · have hf := (if_pos hc).symm.trans hf
          refine AW.iconst (v := (0 : Int32)) dX8_level_141 (by decide) ?_
          obtain rfl := Option.some.inj hf
          exact AW.zret (st := []) dX8_level_142 rfl (Or.inl rfl) ((show (0 : Int32) = 0 ∨ (0 : Int32) = 1 → _ from hE) (Or.inl rfl))
        · have hf := (if_neg hc).symm.trans hf
          refine AW.aload_n dX8_level_132 rfl ?_
          refine AW.iload dX8_level_133 rfl ?_
          obtain ⟨v13, gv13, hf⟩ := ob_split hf
          refine TW.invv (as := [.int (I8 35 5)]) (rest := []) viX8_49_8 hs.k35 dX8_level_135 rfl rfl (Nat.le_of_ble_eq_true rfl) (c_X8_put hs gv13 ?_)
          show AW G mX8_level (d + 13) 0 0 K 138 [some (.ref 35), some (.int p1), some (.int p2), some (.int j7), some (.int i9), some (.int (I8 35 5))] [.int v13.2] (v13.1, J, ρ)
          refine AW.if_ne (tgt := 143) dX8_level_138 (by decide) (fun hc => ?_) (fun hc => ?_)
          · have hf := (if_neg hc).symm.trans hf
            refine AW.iinc (v := (i9 + (1 : Int32))) (ls' := [some (.ref 35), some (.int p1), some (.int p2), some (.int j7), some (.int (i9 + (1 : Int32))), some (.int (I8 35 5))]) dX8_level_143 rfl rfl (Nat.le_of_ble_eq_true rfl) rfl ?_
            refine AW.goto (tgt := 94) dX8_level_146 (by decide) ?_
            exact AW.weak _ (by exact (And.intro rfl (And.intro rfl (And.intro rfl (And.intro rfl (And.intro rfl trivial)))))) (ih v13.1 (i9 + (1 : Int32)) hf hE)
          · have hf := (if_pos hc).symm.trans hf
            refine AW.iconst (v := (0 : Int32)) dX8_level_141 (by decide) ?_
            obtain rfl := Option.some.inj hf
            exact AW.zret (st := []) dX8_level_142 rfl (Or.inl rfl) ((show (0 : Int32) = 0 ∨ (0 : Int32) = 1 → _ from hE) (Or.inl rfl))
def f_X8_level (R : Bool → (Nat → Nat → Int32) → Int32 → Int32 → Option ((Nat → Nat → Int32) × Int32)) (N : Nat) (ρ : Rh) (I : Nat → Nat → Int32) (J : Nat → Nat → Int64) (p1 : Int32) (p2 : Int32) : Option ((Nat → Nat → Int32) × Int32) := (if (p1 ≤ (4 : Int32)) then (((if (p1 = (2 : Int32)) then (if ((I 35 5) = (-8 : Int32)) then (if ((5 : Int32) ≤ p2) then some (Sum.inl (I, (0 : Int32))) else (Option.bind (f_X8_skip N ρ I J (-8 : Int32)) fun v2 => (if (v2.2 = (0 : Int32)) then some (Sum.inl (v2.1, (0 : Int32))) else (Option.bind (R false v2.1 (2 : Int32) (p2 + (1 : Int32))) fun v3 => (if (v3.2 = (0 : Int32)) then some (Sum.inl (v3.1, (0 : Int32))) else (Option.bind (f_X8_put N ρ v3.1 J (-8 : Int32)) fun v4 => (if (v4.2 = (0 : Int32)) then some (Sum.inl (v4.1, (0 : Int32))) else some (Sum.inl (v4.1, (1 : Int32)))))))))) else some (Sum.inr ())) else some (Sum.inr ())) : Option (((Nat → Nat → Int32) × Int32) ⊕ (Unit))).bind fun j5 => scase j5 (fun r => some r) (fun j5 => (Option.bind (R false I (p1 + (1 : Int32)) p2) fun v6 => (if (v6.2 = (0 : Int32)) then some (v6.1, (0 : Int32)) else (((if (p1 = (2 : Int32)) then some (1 : Int32) else some (160 : Int32)) : Option (Int32)).bind fun j7 => ((f_X8_level_94 N J ρ p1 p2 j7 R N v6.1 (0 : Int32)).bind fun j14 => scase j14 (fun r => some r) (fun j14 => some (j14, (1 : Int32))))))))) else (Option.bind (R true I p2 (0 : Int32)) fun v1 => some (v1.1, v1.2)))
theorem c_X8_level {G : Gd} {d N : Nat} {K : Ah → Option Value → Prop} {ρ : Rh} {I : Nat → Nat → Int32} {J : Nat → Nat → Int64} {p1 : Int32} {p2 : Int32} {o : (Nat → Nat → Int32) × Int32} {R : Bool → (Nat → Nat → Int32) → Int32 → Int32 → Option ((Nat → Nat → Int32) × Int32)} (hs : Sh ρ) (hR : ∀ {K : Ah → Option Value → Prop} {I : Nat → Nat → Int32} {t o : Int32} {r : (Nat → Nat → Int32) × Int32}, R false I t (o : Int32) = some r → (r.2 = 0 ∨ r.2 = 1 → K (r.1, J, ρ) (some (.int r.2))) → AM G (d + 12) 0 0 mX8_level [.ref 35, .int t, .int o] (I, J, ρ) K) (hR1 : ∀ {K : Ah → Option Value → Prop} {I : Nat → Nat → Int32} {t o : Int32} {r : (Nat → Nat → Int32) × Int32}, R true I t (o : Int32) = some r → (r.2 = 0 ∨ r.2 = 1 → K (r.1, J, ρ) (some (.int r.2))) → AM G (d + 12) 0 0 mX8_one [.ref 35, .int t] (I, J, ρ) K) (hf : f_X8_level R N ρ I J p1 p2 = some o) (hK : (o.2 = 0 ∨ o.2 = 1 → K (o.1, J, ρ) (some (.int o.2)))) : AM G (d + 13) 0 0 mX8_level [.ref 35, .int p1, .int p2] (I, J, ρ) K := by
  unfold f_X8_level at hf
  refine AM.intro okX8_level.2.2.2.1 (Nat.le_of_ble_eq_true rfl) [some (.ref 35), some (.int p1), some (.int p2), none, none, none] rfl ?_
  refine AW.iload_n dX8_level_0 rfl ?_
  refine AW.iconst (v := (4 : Int32)) dX8_level_1 (by decide) ?_
  refine AW.icmp_le (tgt := 11) dX8_level_2 (by decide) (fun hc => ?_) (fun hc => ?_)
  · have hf := (if_pos hc).symm.trans hf
    refine AW.iload_n dX8_level_11 rfl ?_
    refine AW.iconst (v := (2 : Int32)) dX8_level_12 (by decide) ?_
    obtain ⟨j5, gj5, hf⟩ := ob_split hf
    have Kj5 : scase j5 (fun r => (r.2 = 0 ∨ r.2 = 1 → K (r.1, J, ρ) (some (.int r.2)))) (fun j5 => AW G mX8_level (d + 13) 0 0 K 65 [some (.ref 35), some (.int p1), some (.int p2), none, none, none] [] (I, J, ρ)) := by
      rcases j5 with r | j5
      · obtain rfl := Option.some.inj hf; exact hK
      · show AW G mX8_level (d + 13) 0 0 K 65 [some (.ref 35), some (.int p1), some (.int p2), none, none, none] [] (I, J, ρ)
        refine AW.aload_n dX8_level_65 rfl ?_
        refine AW.iload_n dX8_level_66 rfl ?_
        refine AW.iconst (v := (1 : Int32)) dX8_level_67 (by decide) ?_
        refine AW.iadd dX8_level_68 ?_
        refine AW.iload_n dX8_level_69 rfl ?_
        obtain ⟨v6, gv6, hf⟩ := ob_split hf
        refine TW.invv (as := [.int (p1 + (1 : Int32)), .int p2]) (rest := []) viX8_39_8 hs.k35 dX8_level_70 rfl rfl (Nat.le_of_ble_eq_true rfl) (hR gv6 (fun hzv6 => ?_))
        show AW G mX8_level (d + 13) 0 0 K 73 [some (.ref 35), some (.int p1), some (.int p2), none, none, none] [.int v6.2] (v6.1, J, ρ)
        refine AW.if_ne (tgt := 78) dX8_level_73 (by decide) (fun hc => ?_) (fun hc => ?_)
        · have hf := (if_neg hc).symm.trans hf
          refine AW.iload_n dX8_level_78 rfl ?_
          refine AW.iconst (v := (2 : Int32)) dX8_level_79 (by decide) ?_
          obtain ⟨j7, gj7, hf⟩ := ob_split hf
          have Kj7 : AW G mX8_level (d + 13) 0 0 K 90 [some (.ref 35), some (.int p1), some (.int p2), none, none, none] [.int j7] (v6.1, J, ρ) := by
            refine AW.istore_n (ls' := [some (.ref 35), some (.int p1), some (.int p2), some (.int j7), none, none]) dX8_level_90 (Nat.le_of_ble_eq_true rfl) rfl ?_
            refine AW.iconst (v := (0 : Int32)) dX8_level_91 (by decide) ?_
            refine AW.istore (ls' := [some (.ref 35), some (.int p1), some (.int p2), some (.int j7), some (.int (0 : Int32)), none]) dX8_level_92 (Nat.le_of_ble_eq_true rfl) rfl ?_
            obtain ⟨j14, gj14, hf⟩ := ob_split hf
            refine AW.weak _ (by exact (And.intro rfl (And.intro rfl (And.intro rfl (And.intro rfl (And.intro rfl trivial)))))) (l_X8_level_94 hs hR hR1 N v6.1 (0 : Int32) gj14 ?_)
            rcases j14 with r | j14
            · obtain rfl := Option.some.inj hf; exact hK
            · show AW G mX8_level (d + 13) 0 0 K 149 [none, none, none, none, none, none] [] (j14, J, ρ)
              refine AW.iconst (v := (1 : Int32)) dX8_level_149 (by decide) ?_
              obtain rfl := Option.some.inj hf
              exact AW.zret (st := []) dX8_level_150 rfl (Or.inr rfl) ((show (1 : Int32) = 0 ∨ (1 : Int32) = 1 → _ from hK) (Or.inr rfl))
          clear hf; have hf := gj7; clear gj7
          refine AW.icmp_ne (tgt := 87) dX8_level_80 (by decide) (fun hc => ?_) (fun hc => ?_)
          · have hf := (if_neg hc).symm.trans hf
            refine AW.sipush (v := (160 : Int32)) dX8_level_87 (by decide) ?_
            obtain rfl := Option.some.inj hf
            exact AW.weak _ (by exact (And.intro rfl (And.intro rfl (And.intro rfl trivial)))) Kj7
          · have hf := (if_pos hc).symm.trans hf
            refine AW.iconst (v := (1 : Int32)) dX8_level_83 (by decide) ?_
            refine AW.goto (tgt := 90) dX8_level_84 (by decide) ?_
            obtain rfl := Option.some.inj hf
            exact AW.weak _ (by exact (And.intro rfl (And.intro rfl (And.intro rfl trivial)))) Kj7
        · have hf := (if_pos hc).symm.trans hf
          refine AW.iconst (v := (0 : Int32)) dX8_level_76 (by decide) ?_
          obtain rfl := Option.some.inj hf
          exact AW.zret (st := []) dX8_level_77 rfl (Or.inl rfl) ((show (0 : Int32) = 0 ∨ (0 : Int32) = 1 → _ from hK) (Or.inl rfl))
    clear hf; have hf := gj5; clear gj5
    refine AW.icmp_ne (tgt := 65) dX8_level_13 (by decide) (fun hc => ?_) (fun hc => ?_)
    · have hf := (if_neg hc).symm.trans hf
      obtain rfl := Option.some.inj hf
      exact AW.weak _ (by exact (And.intro rfl (And.intro rfl (And.intro rfl trivial)))) Kj5
    · have hf := (if_pos hc).symm.trans hf
      refine AW.aload_n dX8_level_16 rfl ?_
      refine TW.getI (x := (I 35 5)) fX8_43_8 hs.k35 rfl dX8_level_17 ?_
      refine AW.bipush (v := (-8 : Int32)) dX8_level_20 (by decide) ?_
      refine AW.icmp_ne (tgt := 65) dX8_level_22 (by decide) (fun hc => ?_) (fun hc => ?_)
      · have hf := (if_neg hc).symm.trans hf
        obtain rfl := Option.some.inj hf
        exact AW.weak _ (by exact (And.intro rfl (And.intro rfl (And.intro rfl trivial)))) Kj5
      · have hf := (if_pos hc).symm.trans hf
        refine AW.iload_n dX8_level_25 rfl ?_
        refine AW.iconst (v := (5 : Int32)) dX8_level_26 (by decide) ?_
        refine AW.icmp_ge (tgt := 63) dX8_level_27 (by decide) (fun hc => ?_) (fun hc => ?_)
        · have hf := (if_pos hc).symm.trans hf
          refine AW.iconst (v := (0 : Int32)) dX8_level_63 (by decide) ?_
          obtain rfl := Option.some.inj hf
          exact AW.zret (st := []) dX8_level_64 rfl (Or.inl rfl) ((show (0 : Int32) = 0 ∨ (0 : Int32) = 1 → _ from Kj5) (Or.inl rfl))
        · have hf := (if_neg hc).symm.trans hf
          refine AW.aload_n dX8_level_30 rfl ?_
          refine AW.bipush (v := (-8 : Int32)) dX8_level_31 (by decide) ?_
          obtain ⟨v2, gv2, hf⟩ := ob_split hf
          refine TW.invv (as := [.int (-8 : Int32)]) (rest := []) viX8_35_8 hs.k35 dX8_level_33 rfl rfl (Nat.le_of_ble_eq_true rfl) (c_X8_skip hs gv2 ?_)
          show AW G mX8_level (d + 13) 0 0 K 36 [some (.ref 35), some (.int p1), some (.int p2), none, none, none] [.int v2.2] (v2.1, J, ρ)
          refine AW.if_eq (tgt := 63) dX8_level_36 (by decide) (fun hc => ?_) (fun hc => ?_)
          · have hf := (if_pos hc).symm.trans hf
            refine AW.iconst (v := (0 : Int32)) dX8_level_63 (by decide) ?_
            obtain rfl := Option.some.inj hf
            exact AW.zret (st := []) dX8_level_64 rfl (Or.inl rfl) ((show (0 : Int32) = 0 ∨ (0 : Int32) = 1 → _ from Kj5) (Or.inl rfl))
          · have hf := (if_neg hc).symm.trans hf
            refine AW.aload_n dX8_level_39 rfl ?_
            refine AW.iconst (v := (2 : Int32)) dX8_level_40 (by decide) ?_
            refine AW.iload_n dX8_level_41 rfl ?_
            refine AW.iconst (v := (1 : Int32)) dX8_level_42 (by decide) ?_
            refine AW.iadd dX8_level_43 ?_
            obtain ⟨v3, gv3, hf⟩ := ob_split hf
            refine TW.invv (as := [.int (2 : Int32), .int (p2 + (1 : Int32))]) (rest := []) viX8_39_8 hs.k35 dX8_level_44 rfl rfl (Nat.le_of_ble_eq_true rfl) (hR gv3 (fun hzv3 => ?_))
            show AW G mX8_level (d + 13) 0 0 K 47 [some (.ref 35), some (.int p1), some (.int p2), none, none, none] [.int v3.2] (v3.1, J, ρ)
            refine AW.if_eq (tgt := 63) dX8_level_47 (by decide) (fun hc => ?_) (fun hc => ?_)
            · have hf := (if_pos hc).symm.trans hf
              refine AW.iconst (v := (0 : Int32)) dX8_level_63 (by decide) ?_
              obtain rfl := Option.some.inj hf
              exact AW.zret (st := []) dX8_level_64 rfl (Or.inl rfl) ((show (0 : Int32) = 0 ∨ (0 : Int32) = 1 → _ from Kj5) (Or.inl rfl))
            · have hf := (if_neg hc).symm.trans hf
              refine AW.aload_n dX8_level_50 rfl ?_
              refine AW.bipush (v := (-8 : Int32)) dX8_level_51 (by decide) ?_
              obtain ⟨v4, gv4, hf⟩ := ob_split hf
              refine TW.invv (as := [.int (-8 : Int32)]) (rest := []) viX8_49_8 hs.k35 dX8_level_53 rfl rfl (Nat.le_of_ble_eq_true rfl) (c_X8_put hs gv4 ?_)
              show AW G mX8_level (d + 13) 0 0 K 56 [some (.ref 35), some (.int p1), some (.int p2), none, none, none] [.int v4.2] (v4.1, J, ρ)
              refine AW.if_eq (tgt := 63) dX8_level_56 (by decide) (fun hc => ?_) (fun hc => ?_)
              · have hf := (if_pos hc).symm.trans hf
                refine AW.iconst (v := (0 : Int32)) dX8_level_63 (by decide) ?_
                obtain rfl := Option.some.inj hf
                exact AW.zret (st := []) dX8_level_64 rfl (Or.inl rfl) ((show (0 : Int32) = 0 ∨ (0 : Int32) = 1 → _ from Kj5) (Or.inl rfl))
              · have hf := (if_neg hc).symm.trans hf
                refine AW.iconst (v := (1 : Int32)) dX8_level_59 (by decide) ?_
                refine AW.goto (tgt := 64) dX8_level_60 (by decide) ?_
                obtain rfl := Option.some.inj hf
                exact AW.zret (st := []) dX8_level_64 rfl (Or.inr rfl) ((show (1 : Int32) = 0 ∨ (1 : Int32) = 1 → _ from Kj5) (Or.inr rfl))
  · have hf := (if_neg hc).symm.trans hf
    refine AW.aload_n dX8_level_5 rfl ?_
    refine AW.iload_n dX8_level_6 rfl ?_
    obtain ⟨v1, gv1, hf⟩ := ob_split hf
    refine TW.invv (as := [.int p2]) (rest := []) viX8_46_8 hs.k35 dX8_level_7 rfl rfl (Nat.le_of_ble_eq_true rfl) (hR1 gv1 (fun hzv1 => ?_))
    show AW G mX8_level (d + 13) 0 0 K 10 [some (.ref 35), some (.int p1), some (.int p2), none, none, none] [.int v1.2] (v1.1, J, ρ)
    obtain rfl := Option.some.inj hf
    exact AW.zret (st := []) dX8_level_10 rfl hzv1 ((show v1.2 = 0 ∨ v1.2 = 1 → _ from hK) hzv1)
def f_X8_one (R : Bool → (Nat → Nat → Int32) → Int32 → Int32 → Option ((Nat → Nat → Int32) × Int32)) (N : Nat) (ρ : Rh) (I : Nat → Nat → Int32) (J : Nat → Nat → Int64) (p1 : Int32) : Option ((Nat → Nat → Int32) × Int32) := (if ((I 35 5) < (-6 : Int32)) then (if ((I 35 5) = (-14 : Int32)) then (if ((5 : Int32) ≤ p1) then some (I, (0 : Int32)) else (Option.bind (f_X8_skip N ρ I J (-14 : Int32)) fun v3 => (if (v3.2 = (0 : Int32)) then some (v3.1, (0 : Int32)) else (Option.bind (R true v3.1 (p1 + (1 : Int32)) (0 : Int32)) fun v4 => (if (v4.2 = (0 : Int32)) then some (v4.1, (0 : Int32)) else (Option.bind (f_X8_put N ρ v4.1 J (-7 : Int32)) fun v5 => (if (v5.2 = (0 : Int32)) then some (v5.1, (0 : Int32)) else some (v5.1, (1 : Int32))))))))) else (if ((I 35 5) = (-18 : Int32)) then (if ((5 : Int32) ≤ p1) then some (I, (0 : Int32)) else (Option.bind (f_X8_skip N ρ I J (-18 : Int32)) fun v6 => (if (v6.2 = (0 : Int32)) then some (v6.1, (0 : Int32)) else (Option.bind (R false v6.1 (0 : Int32) (p1 + (1 : Int32))) fun v7 => (if (v7.2 = (0 : Int32)) then some (v7.1, (0 : Int32)) else (Option.bind (f_X8_skip N ρ v7.1 J (-19 : Int32)) fun v8 => (if (v8.2 = (0 : Int32)) then some (v8.1, (0 : Int32)) else some (v8.1, (1 : Int32))))))))) else some (I, (0 : Int32)))) else (Option.bind (f_X8_next N ρ I J) fun v1 => (Option.bind (f_X8_put N ρ v1 J (I 35 5)) fun v2 => some (v2.1, v2.2))))
theorem c_X8_one {G : Gd} {d N : Nat} {K : Ah → Option Value → Prop} {ρ : Rh} {I : Nat → Nat → Int32} {J : Nat → Nat → Int64} {p1 : Int32} {o : (Nat → Nat → Int32) × Int32} {R : Bool → (Nat → Nat → Int32) → Int32 → Int32 → Option ((Nat → Nat → Int32) × Int32)} (hs : Sh ρ) (hR : ∀ {K : Ah → Option Value → Prop} {I : Nat → Nat → Int32} {t o : Int32} {r : (Nat → Nat → Int32) × Int32}, R false I t (o : Int32) = some r → (r.2 = 0 ∨ r.2 = 1 → K (r.1, J, ρ) (some (.int r.2))) → AM G (d + 12) 0 0 mX8_level [.ref 35, .int t, .int o] (I, J, ρ) K) (hR1 : ∀ {K : Ah → Option Value → Prop} {I : Nat → Nat → Int32} {t o : Int32} {r : (Nat → Nat → Int32) × Int32}, R true I t (o : Int32) = some r → (r.2 = 0 ∨ r.2 = 1 → K (r.1, J, ρ) (some (.int r.2))) → AM G (d + 12) 0 0 mX8_one [.ref 35, .int t] (I, J, ρ) K) (hf : f_X8_one R N ρ I J p1 = some o) (hK : (o.2 = 0 ∨ o.2 = 1 → K (o.1, J, ρ) (some (.int o.2)))) : AM G (d + 13) 0 0 mX8_one [.ref 35, .int p1] (I, J, ρ) K := by
  unfold f_X8_one at hf
  refine AM.intro okX8_one.2.2.2.1 (Nat.le_of_ble_eq_true rfl) [some (.ref 35), some (.int p1), none] rfl ?_
  refine AW.aload_n dX8_one_0 rfl ?_
  refine TW.getI (x := (I 35 5)) fX8_43_8 hs.k35 rfl dX8_one_1 ?_
  refine AW.bipush (v := (-6 : Int32)) dX8_one_4 (by decide) ?_
  refine AW.icmp_lt (tgt := 24) dX8_one_6 (by decide) (fun hc => ?_) (fun hc => ?_)
  · have hf := (if_pos hc).symm.trans hf
    refine AW.aload_n dX8_one_24 rfl ?_
    refine TW.getI (x := (I 35 5)) fX8_43_8 hs.k35 rfl dX8_one_25 ?_
    refine AW.bipush (v := (-14 : Int32)) dX8_one_28 (by decide) ?_
    refine AW.icmp_ne (tgt := 72) dX8_one_30 (by decide) (fun hc => ?_) (fun hc => ?_)
    · have hf := (if_neg hc).symm.trans hf
      refine AW.aload_n dX8_one_72 rfl ?_
      refine TW.getI (x := (I 35 5)) fX8_43_8 hs.k35 rfl dX8_one_73 ?_
      refine AW.bipush (v := (-18 : Int32)) dX8_one_76 (by decide) ?_
      refine AW.icmp_ne (tgt := 119) dX8_one_78 (by decide) (fun hc => ?_) (fun hc => ?_)
      · have hf := (if_neg hc).symm.trans hf
        refine AW.iconst (v := (0 : Int32)) dX8_one_119 (by decide) ?_
        obtain rfl := Option.some.inj hf
        exact AW.zret (st := []) dX8_one_120 rfl (Or.inl rfl) ((show (0 : Int32) = 0 ∨ (0 : Int32) = 1 → _ from hK) (Or.inl rfl))
      · have hf := (if_pos hc).symm.trans hf
        refine AW.iload_n dX8_one_81 rfl ?_
        refine AW.iconst (v := (5 : Int32)) dX8_one_82 (by decide) ?_
        refine AW.icmp_ge (tgt := 119) dX8_one_83 (by decide) (fun hc => ?_) (fun hc => ?_)
        · have hf := (if_pos hc).symm.trans hf
          refine AW.iconst (v := (0 : Int32)) dX8_one_119 (by decide) ?_
          obtain rfl := Option.some.inj hf
          exact AW.zret (st := []) dX8_one_120 rfl (Or.inl rfl) ((show (0 : Int32) = 0 ∨ (0 : Int32) = 1 → _ from hK) (Or.inl rfl))
        · have hf := (if_neg hc).symm.trans hf
          refine AW.aload_n dX8_one_86 rfl ?_
          refine AW.bipush (v := (-18 : Int32)) dX8_one_87 (by decide) ?_
          obtain ⟨v6, gv6, hf⟩ := ob_split hf
          refine TW.invv (as := [.int (-18 : Int32)]) (rest := []) viX8_35_8 hs.k35 dX8_one_89 rfl rfl (Nat.le_of_ble_eq_true rfl) (c_X8_skip hs gv6 ?_)
          show AW G mX8_one (d + 13) 0 0 K 92 [some (.ref 35), some (.int p1), none] [.int v6.2] (v6.1, J, ρ)
          refine AW.if_eq (tgt := 119) dX8_one_92 (by decide) (fun hc => ?_) (fun hc => ?_)
          · have hf := (if_pos hc).symm.trans hf
            refine AW.iconst (v := (0 : Int32)) dX8_one_119 (by decide) ?_
            obtain rfl := Option.some.inj hf
            exact AW.zret (st := []) dX8_one_120 rfl (Or.inl rfl) ((show (0 : Int32) = 0 ∨ (0 : Int32) = 1 → _ from hK) (Or.inl rfl))
          · have hf := (if_neg hc).symm.trans hf
            refine AW.aload_n dX8_one_95 rfl ?_
            refine AW.iconst (v := (0 : Int32)) dX8_one_96 (by decide) ?_
            refine AW.iload_n dX8_one_97 rfl ?_
            refine AW.iconst (v := (1 : Int32)) dX8_one_98 (by decide) ?_
            refine AW.iadd dX8_one_99 ?_
            obtain ⟨v7, gv7, hf⟩ := ob_split hf
            refine TW.invv (as := [.int (0 : Int32), .int (p1 + (1 : Int32))]) (rest := []) viX8_39_8 hs.k35 dX8_one_100 rfl rfl (Nat.le_of_ble_eq_true rfl) (hR gv7 (fun hzv7 => ?_))
            show AW G mX8_one (d + 13) 0 0 K 103 [some (.ref 35), some (.int p1), none] [.int v7.2] (v7.1, J, ρ)
            refine AW.if_eq (tgt := 119) dX8_one_103 (by decide) (fun hc => ?_) (fun hc => ?_)
            · have hf := (if_pos hc).symm.trans hf
              refine AW.iconst (v := (0 : Int32)) dX8_one_119 (by decide) ?_
              obtain rfl := Option.some.inj hf
              exact AW.zret (st := []) dX8_one_120 rfl (Or.inl rfl) ((show (0 : Int32) = 0 ∨ (0 : Int32) = 1 → _ from hK) (Or.inl rfl))
            · have hf := (if_neg hc).symm.trans hf
              refine AW.aload_n dX8_one_106 rfl ?_
              refine AW.bipush (v := (-19 : Int32)) dX8_one_107 (by decide) ?_
              obtain ⟨v8, gv8, hf⟩ := ob_split hf
              refine TW.invv (as := [.int (-19 : Int32)]) (rest := []) viX8_35_8 hs.k35 dX8_one_109 rfl rfl (Nat.le_of_ble_eq_true rfl) (c_X8_skip hs gv8 ?_)
              show AW G mX8_one (d + 13) 0 0 K 112 [some (.ref 35), some (.int p1), none] [.int v8.2] (v8.1, J, ρ)
              refine AW.if_eq (tgt := 119) dX8_one_112 (by decide) (fun hc => ?_) (fun hc => ?_)
              · have hf := (if_pos hc).symm.trans hf
                refine AW.iconst (v := (0 : Int32)) dX8_one_119 (by decide) ?_
                obtain rfl := Option.some.inj hf
                exact AW.zret (st := []) dX8_one_120 rfl (Or.inl rfl) ((show (0 : Int32) = 0 ∨ (0 : Int32) = 1 → _ from hK) (Or.inl rfl))
              · have hf := (if_neg hc).symm.trans hf
                refine AW.iconst (v := (1 : Int32)) dX8_one_115 (by decide) ?_
                refine AW.goto (tgt := 120) dX8_one_116 (by decide) ?_
                obtain rfl := Option.some.inj hf
                exact AW.zret (st := []) dX8_one_120 rfl (Or.inr rfl) ((show (1 : Int32) = 0 ∨ (1 : Int32) = 1 → _ from hK) (Or.inr rfl))
    · have hf := (if_pos hc).symm.trans hf
      refine AW.iload_n dX8_one_33 rfl ?_
      refine AW.iconst (v := (5 : Int32)) dX8_one_34 (by decide) ?_
      refine AW.icmp_ge (tgt := 70) dX8_one_35 (by decide) (fun hc => ?_) (fun hc => ?_)
      · have hf := (if_pos hc).symm.trans hf
        refine AW.iconst (v := (0 : Int32)) dX8_one_70 (by decide) ?_
        obtain rfl := Option.some.inj hf
        exact AW.zret (st := []) dX8_one_71 rfl (Or.inl rfl) ((show (0 : Int32) = 0 ∨ (0 : Int32) = 1 → _ from hK) (Or.inl rfl))
      · have hf := (if_neg hc).symm.trans hf
        refine AW.aload_n dX8_one_38 rfl ?_
        refine AW.bipush (v := (-14 : Int32)) dX8_one_39 (by decide) ?_
        obtain ⟨v3, gv3, hf⟩ := ob_split hf
        refine TW.invv (as := [.int (-14 : Int32)]) (rest := []) viX8_35_8 hs.k35 dX8_one_41 rfl rfl (Nat.le_of_ble_eq_true rfl) (c_X8_skip hs gv3 ?_)
        show AW G mX8_one (d + 13) 0 0 K 44 [some (.ref 35), some (.int p1), none] [.int v3.2] (v3.1, J, ρ)
        refine AW.if_eq (tgt := 70) dX8_one_44 (by decide) (fun hc => ?_) (fun hc => ?_)
        · have hf := (if_pos hc).symm.trans hf
          refine AW.iconst (v := (0 : Int32)) dX8_one_70 (by decide) ?_
          obtain rfl := Option.some.inj hf
          exact AW.zret (st := []) dX8_one_71 rfl (Or.inl rfl) ((show (0 : Int32) = 0 ∨ (0 : Int32) = 1 → _ from hK) (Or.inl rfl))
        · have hf := (if_neg hc).symm.trans hf
          refine AW.aload_n dX8_one_47 rfl ?_
          refine AW.iload_n dX8_one_48 rfl ?_
          refine AW.iconst (v := (1 : Int32)) dX8_one_49 (by decide) ?_
          refine AW.iadd dX8_one_50 ?_
          obtain ⟨v4, gv4, hf⟩ := ob_split hf
          refine TW.invv (as := [.int (p1 + (1 : Int32))]) (rest := []) viX8_46_8 hs.k35 dX8_one_51 rfl rfl (Nat.le_of_ble_eq_true rfl) (hR1 gv4 (fun hzv4 => ?_))
          show AW G mX8_one (d + 13) 0 0 K 54 [some (.ref 35), some (.int p1), none] [.int v4.2] (v4.1, J, ρ)
          refine AW.if_eq (tgt := 70) dX8_one_54 (by decide) (fun hc => ?_) (fun hc => ?_)
          · have hf := (if_pos hc).symm.trans hf
            refine AW.iconst (v := (0 : Int32)) dX8_one_70 (by decide) ?_
            obtain rfl := Option.some.inj hf
            exact AW.zret (st := []) dX8_one_71 rfl (Or.inl rfl) ((show (0 : Int32) = 0 ∨ (0 : Int32) = 1 → _ from hK) (Or.inl rfl))
          · have hf := (if_neg hc).symm.trans hf
            refine AW.aload_n dX8_one_57 rfl ?_
            refine AW.bipush (v := (-7 : Int32)) dX8_one_58 (by decide) ?_
            obtain ⟨v5, gv5, hf⟩ := ob_split hf
            refine TW.invv (as := [.int (-7 : Int32)]) (rest := []) viX8_49_8 hs.k35 dX8_one_60 rfl rfl (Nat.le_of_ble_eq_true rfl) (c_X8_put hs gv5 ?_)
            show AW G mX8_one (d + 13) 0 0 K 63 [some (.ref 35), some (.int p1), none] [.int v5.2] (v5.1, J, ρ)
            refine AW.if_eq (tgt := 70) dX8_one_63 (by decide) (fun hc => ?_) (fun hc => ?_)
            · have hf := (if_pos hc).symm.trans hf
              refine AW.iconst (v := (0 : Int32)) dX8_one_70 (by decide) ?_
              obtain rfl := Option.some.inj hf
              exact AW.zret (st := []) dX8_one_71 rfl (Or.inl rfl) ((show (0 : Int32) = 0 ∨ (0 : Int32) = 1 → _ from hK) (Or.inl rfl))
            · have hf := (if_neg hc).symm.trans hf
              refine AW.iconst (v := (1 : Int32)) dX8_one_66 (by decide) ?_
              refine AW.goto (tgt := 71) dX8_one_67 (by decide) ?_
              obtain rfl := Option.some.inj hf
              exact AW.zret (st := []) dX8_one_71 rfl (Or.inr rfl) ((show (1 : Int32) = 0 ∨ (1 : Int32) = 1 → _ from hK) (Or.inr rfl))
  · have hf := (if_neg hc).symm.trans hf
    refine AW.aload_n dX8_one_9 rfl ?_
    refine TW.getI (x := (I 35 5)) fX8_43_8 hs.k35 rfl dX8_one_10 ?_
    refine AW.istore_n (ls' := [some (.ref 35), some (.int p1), some (.int (I 35 5))]) dX8_one_13 (Nat.le_of_ble_eq_true rfl) rfl ?_
    refine AW.aload_n dX8_one_14 rfl ?_
    obtain ⟨v1, gv1, hf⟩ := ob_split hf
    refine TW.invv (as := []) (rest := []) viX8_32_8 hs.k35 dX8_one_15 rfl rfl (Nat.le_of_ble_eq_true rfl) (c_X8_next hs gv1 ?_)
    show AW G mX8_one (d + 13) 0 0 K 18 [some (.ref 35), some (.int p1), some (.int (I 35 5))] [] (v1, J, ρ)
    refine AW.aload_n dX8_one_18 rfl ?_
    refine AW.iload_n dX8_one_19 rfl ?_
    obtain ⟨v2, gv2, hf⟩ := ob_split hf
    refine TW.invv (as := [.int (I 35 5)]) (rest := []) viX8_49_8 hs.k35 dX8_one_20 rfl rfl (Nat.le_of_ble_eq_true rfl) (c_X8_put hs gv2 ?_)
    show AW G mX8_one (d + 13) 0 0 K 23 [some (.ref 35), some (.int p1), some (.int (I 35 5))] [.int v2.2] (v2.1, J, ρ)
    obtain rfl := Option.some.inj hf
    exact AW.zret (st := []) dX8_one_23 rfl (z_X8_put gv2) ((show v2.2 = 0 ∨ v2.2 = 1 → _ from hK) (z_X8_put gv2))
def f_lv (N : Nat) (ρ : Rh) (J : Nat → Nat → Int64) : Nat → Bool → (Nat → Nat → Int32) → Int32 → Int32 → Option ((Nat → Nat → Int32) × Int32)
  | 0, _, _, _, _ => none
  | n + 1, false, I, t, o => f_X8_level (f_lv N ρ J n) N ρ I J t o
  | n + 1, true, I, t, _ => f_X8_one (f_lv N ρ J n) N ρ I J t
theorem c_lv {G : Gd} {N : Nat} {ρ : Rh} {J : Nat → Nat → Int64} (hs : Sh ρ) : ∀ (n d : Nat) (K : Ah → Option Value → Prop) (I : Nat → Nat → Int32) (t o : Int32) (r : (Nat → Nat → Int32) × Int32),
    (f_lv N ρ J n false I t o = some r → (r.2 = 0 ∨ r.2 = 1 → K (r.1, J, ρ) (some (.int r.2))) → AM G (d + n + 12) 0 0 mX8_level [.ref 35, .int t, .int o] (I, J, ρ) K) ∧
    (f_lv N ρ J n true I t o = some r → (r.2 = 0 ∨ r.2 = 1 → K (r.1, J, ρ) (some (.int r.2))) → AM G (d + n + 12) 0 0 mX8_one [.ref 35, .int t] (I, J, ρ) K) := by
  intro n
  induction n with
  | zero =>
    intro d K I t o r
    refine ⟨fun hf => ?_, fun hf => ?_⟩
    · rw [f_lv.eq_1] at hf; cases hf
    · rw [f_lv.eq_1] at hf; cases hf
  | succ n ih =>
    intro d K I t o r
    refine ⟨fun hf hK => ?_, fun hf hK => ?_⟩
    · rw [f_lv.eq_2] at hf
      exact c_X8_level (d := d + n) hs (fun h k => (ih d _ _ _ _ _).1 h k) (fun h k => (ih d _ _ _ _ _).2 h k) hf hK
    · rw [f_lv.eq_3] at hf
      exact c_X8_one (d := d + n) hs (fun h k => (ih d _ _ _ _ _).1 h k) (fun h k => (ih d _ _ _ _ _).2 h k) hf hK
def f_X8_lv (N : Nat) (ρ : Rh) (I : Nat → Nat → Int32) (J : Nat → Nat → Int64) (t o : Int32) : Option ((Nat → Nat → Int32) × Int32) := f_lv N ρ J 60 false I t o
theorem c_X8_lv {G : Gd} {d N : Nat} {K : Ah → Option Value → Prop} {ρ : Rh} {I : Nat → Nat → Int32} {J : Nat → Nat → Int64} {t o : Int32} {r : (Nat → Nat → Int32) × Int32} (hs : Sh ρ) (hf : f_X8_lv N ρ I J t o = some r) (hK : K (r.1, J, ρ) (some (.int r.2))) : AM G (d + 72) 0 0 mX8_level [.ref 35, .int t, .int o] (I, J, ρ) K := (c_lv hs 60 d K I t o r).1 hf fun _ => hK

def f_X8_readWhole (N : Nat) (ρ : Rh) (I : Nat → Nat → Int32) (J : Nat → Nat → Int64) : Option ((Nat → Nat → Int32) × Int32) := (Option.bind (f_X8_next N ρ (u2 (u2 (u2 I 35 3 (0 : Int32)) 35 4 (0 : Int32)) 35 7 (0 : Int32)) J) fun v1 => (Option.bind (f_X8_skip N ρ v1 J (-16 : Int32)) fun v2 => (if (v2.2 = (0 : Int32)) then some (v2.1, (0 : Int32)) else (Option.bind (f_X8_lv N ρ v2.1 J (0 : Int32) (0 : Int32)) fun v3 => (if (v3.2 = (0 : Int32)) then some (v3.1, (0 : Int32)) else (Option.bind (f_X8_skip N ρ v3.1 J (-20 : Int32)) fun v4 => (if (v4.2 = (0 : Int32)) then some (v4.1, (0 : Int32)) else (Option.bind (f_X8_skip N ρ (u2 v4.1 35 4 (v4.1 35 3)) J (-17 : Int32)) fun v5 => (if (v5.2 = (0 : Int32)) then some (v5.1, (0 : Int32)) else (Option.bind (f_X8_lv N ρ v5.1 J (0 : Int32) (0 : Int32)) fun v6 => (if (v6.2 = (0 : Int32)) then some (v6.1, (0 : Int32)) else (Option.bind (f_X8_skip N ρ v6.1 J (-20 : Int32)) fun v7 => (if (v7.2 = (0 : Int32)) then some (v7.1, (0 : Int32)) else (if ((v7.1 35 5) = (-21 : Int32)) then some (v7.1, (1 : Int32)) else some (v7.1, (0 : Int32))))))))))))))))
theorem c_X8_readWhole {G : Gd} {d N : Nat} {K : Ah → Option Value → Prop} {ρ : Rh} {I : Nat → Nat → Int32} {J : Nat → Nat → Int64} {o : (Nat → Nat → Int32) × Int32} (hs : Sh ρ) (hf : f_X8_readWhole N ρ I J = some o) (hK : K (o.1, J, ρ) (some (.int o.2))) : AM G (d + 73) 0 0 mX8_readWhole [.ref 35] (I, J, ρ) K := by
  unfold f_X8_readWhole at hf
  refine AM.intro okX8_readWhole.2.2.2.1 (Nat.le_of_ble_eq_true rfl) [some (.ref 35)] rfl ?_
  refine AW.aload_n dX8_readWhole_0 rfl ?_
  refine AW.iconst (v := (0 : Int32)) dX8_readWhole_1 (by decide) ?_
  refine TW.putI fX8_23_8 hs.k35 (Or.inl rfl) dX8_readWhole_2 ?_
  show AW G mX8_readWhole (d + 73) 0 0 K 5 [some (.ref 35)] [] ((u2 I 35 3 (0 : Int32)), J, ρ)
  refine AW.aload_n dX8_readWhole_5 rfl ?_
  refine AW.iconst (v := (0 : Int32)) dX8_readWhole_6 (by decide) ?_
  refine TW.putI fX8_26_8 hs.k35 (Or.inl rfl) dX8_readWhole_7 ?_
  show AW G mX8_readWhole (d + 73) 0 0 K 10 [some (.ref 35)] [] ((u2 (u2 I 35 3 (0 : Int32)) 35 4 (0 : Int32)), J, ρ)
  refine AW.aload_n dX8_readWhole_10 rfl ?_
  refine AW.iconst (v := (0 : Int32)) dX8_readWhole_11 (by decide) ?_
  refine TW.putI fX8_29_8 hs.k35 (Or.inl rfl) dX8_readWhole_12 ?_
  show AW G mX8_readWhole (d + 73) 0 0 K 15 [some (.ref 35)] [] ((u2 (u2 (u2 I 35 3 (0 : Int32)) 35 4 (0 : Int32)) 35 7 (0 : Int32)), J, ρ)
  refine AW.aload_n dX8_readWhole_15 rfl ?_
  obtain ⟨v1, gv1, hf⟩ := ob_split hf
  refine TW.invv (as := []) (rest := []) viX8_32_8 hs.k35 dX8_readWhole_16 rfl rfl (Nat.le_of_ble_eq_true rfl) (c_X8_next hs gv1 ?_)
  show AW G mX8_readWhole (d + 73) 0 0 K 19 [some (.ref 35)] [] (v1, J, ρ)
  refine AW.aload_n dX8_readWhole_19 rfl ?_
  refine AW.bipush (v := (-16 : Int32)) dX8_readWhole_20 (by decide) ?_
  obtain ⟨v2, gv2, hf⟩ := ob_split hf
  refine TW.invv (as := [.int (-16 : Int32)]) (rest := []) viX8_35_8 hs.k35 dX8_readWhole_22 rfl rfl (Nat.le_of_ble_eq_true rfl) (c_X8_skip hs gv2 ?_)
  show AW G mX8_readWhole (d + 73) 0 0 K 25 [some (.ref 35)] [.int v2.2] (v2.1, J, ρ)
  refine AW.if_eq (tgt := 46) dX8_readWhole_25 (by decide) (fun hc => ?_) (fun hc => ?_)
  · have hf := (if_pos hc).symm.trans hf
    refine AW.iconst (v := (0 : Int32)) dX8_readWhole_46 (by decide) ?_
    obtain rfl := Option.some.inj hf
    exact AW.zret (st := []) dX8_readWhole_47 rfl (Or.inl rfl) hK
  · have hf := (if_neg hc).symm.trans hf
    refine AW.aload_n dX8_readWhole_28 rfl ?_
    refine AW.iconst (v := (0 : Int32)) dX8_readWhole_29 (by decide) ?_
    refine AW.iconst (v := (0 : Int32)) dX8_readWhole_30 (by decide) ?_
    obtain ⟨v3, gv3, hf⟩ := ob_split hf
    refine TW.invv (as := [.int (0 : Int32), .int (0 : Int32)]) (rest := []) viX8_39_8 hs.k35 dX8_readWhole_31 rfl rfl (Nat.le_of_ble_eq_true rfl) (c_X8_lv hs gv3 ?_)
    show AW G mX8_readWhole (d + 73) 0 0 K 34 [some (.ref 35)] [.int v3.2] (v3.1, J, ρ)
    refine AW.if_eq (tgt := 46) dX8_readWhole_34 (by decide) (fun hc => ?_) (fun hc => ?_)
    · have hf := (if_pos hc).symm.trans hf
      refine AW.iconst (v := (0 : Int32)) dX8_readWhole_46 (by decide) ?_
      obtain rfl := Option.some.inj hf
      exact AW.zret (st := []) dX8_readWhole_47 rfl (Or.inl rfl) hK
    · have hf := (if_neg hc).symm.trans hf
      refine AW.aload_n dX8_readWhole_37 rfl ?_
      refine AW.bipush (v := (-20 : Int32)) dX8_readWhole_38 (by decide) ?_
      obtain ⟨v4, gv4, hf⟩ := ob_split hf
      refine TW.invv (as := [.int (-20 : Int32)]) (rest := []) viX8_35_8 hs.k35 dX8_readWhole_40 rfl rfl (Nat.le_of_ble_eq_true rfl) (c_X8_skip hs gv4 ?_)
      show AW G mX8_readWhole (d + 73) 0 0 K 43 [some (.ref 35)] [.int v4.2] (v4.1, J, ρ)
      refine AW.if_ne (tgt := 48) dX8_readWhole_43 (by decide) (fun hc => ?_) (fun hc => ?_)
      · have hf := (if_neg hc).symm.trans hf
        refine AW.aload_n dX8_readWhole_48 rfl ?_
        refine AW.aload_n dX8_readWhole_49 rfl ?_
        refine TW.getI (x := (v4.1 35 3)) fX8_23_8 hs.k35 rfl dX8_readWhole_50 ?_
        refine TW.putI fX8_26_8 hs.k35 (Or.inl rfl) dX8_readWhole_53 ?_
        show AW G mX8_readWhole (d + 73) 0 0 K 56 [some (.ref 35)] [] ((u2 v4.1 35 4 (v4.1 35 3)), J, ρ)
        refine AW.aload_n dX8_readWhole_56 rfl ?_
        refine AW.bipush (v := (-17 : Int32)) dX8_readWhole_57 (by decide) ?_
        obtain ⟨v5, gv5, hf⟩ := ob_split hf
        refine TW.invv (as := [.int (-17 : Int32)]) (rest := []) viX8_35_8 hs.k35 dX8_readWhole_59 rfl rfl (Nat.le_of_ble_eq_true rfl) (c_X8_skip hs gv5 ?_)
        show AW G mX8_readWhole (d + 73) 0 0 K 62 [some (.ref 35)] [.int v5.2] (v5.1, J, ρ)
        refine AW.if_eq (tgt := 96) dX8_readWhole_62 (by decide) (fun hc => ?_) (fun hc => ?_)
        · have hf := (if_pos hc).symm.trans hf
          refine AW.iconst (v := (0 : Int32)) dX8_readWhole_96 (by decide) ?_
          obtain rfl := Option.some.inj hf
          exact AW.zret (st := []) dX8_readWhole_97 rfl (Or.inl rfl) hK
        · have hf := (if_neg hc).symm.trans hf
          refine AW.aload_n dX8_readWhole_65 rfl ?_
          refine AW.iconst (v := (0 : Int32)) dX8_readWhole_66 (by decide) ?_
          refine AW.iconst (v := (0 : Int32)) dX8_readWhole_67 (by decide) ?_
          obtain ⟨v6, gv6, hf⟩ := ob_split hf
          refine TW.invv (as := [.int (0 : Int32), .int (0 : Int32)]) (rest := []) viX8_39_8 hs.k35 dX8_readWhole_68 rfl rfl (Nat.le_of_ble_eq_true rfl) (c_X8_lv hs gv6 ?_)
          show AW G mX8_readWhole (d + 73) 0 0 K 71 [some (.ref 35)] [.int v6.2] (v6.1, J, ρ)
          refine AW.if_eq (tgt := 96) dX8_readWhole_71 (by decide) (fun hc => ?_) (fun hc => ?_)
          · have hf := (if_pos hc).symm.trans hf
            refine AW.iconst (v := (0 : Int32)) dX8_readWhole_96 (by decide) ?_
            obtain rfl := Option.some.inj hf
            exact AW.zret (st := []) dX8_readWhole_97 rfl (Or.inl rfl) hK
          · have hf := (if_neg hc).symm.trans hf
            refine AW.aload_n dX8_readWhole_74 rfl ?_
            refine AW.bipush (v := (-20 : Int32)) dX8_readWhole_75 (by decide) ?_
            obtain ⟨v7, gv7, hf⟩ := ob_split hf
            refine TW.invv (as := [.int (-20 : Int32)]) (rest := []) viX8_35_8 hs.k35 dX8_readWhole_77 rfl rfl (Nat.le_of_ble_eq_true rfl) (c_X8_skip hs gv7 ?_)
            show AW G mX8_readWhole (d + 73) 0 0 K 80 [some (.ref 35)] [.int v7.2] (v7.1, J, ρ)
            refine AW.if_eq (tgt := 96) dX8_readWhole_80 (by decide) (fun hc => ?_) (fun hc => ?_)
            · have hf := (if_pos hc).symm.trans hf
              refine AW.iconst (v := (0 : Int32)) dX8_readWhole_96 (by decide) ?_
              obtain rfl := Option.some.inj hf
              exact AW.zret (st := []) dX8_readWhole_97 rfl (Or.inl rfl) hK
            · have hf := (if_neg hc).symm.trans hf
              refine AW.aload_n dX8_readWhole_83 rfl ?_
              refine TW.getI (x := (v7.1 35 5)) fX8_43_8 hs.k35 rfl dX8_readWhole_84 ?_
              refine AW.bipush (v := (-21 : Int32)) dX8_readWhole_87 (by decide) ?_
              refine AW.icmp_ne (tgt := 96) dX8_readWhole_89 (by decide) (fun hc => ?_) (fun hc => ?_)
              · have hf := (if_neg hc).symm.trans hf
                refine AW.iconst (v := (0 : Int32)) dX8_readWhole_96 (by decide) ?_
                obtain rfl := Option.some.inj hf
                exact AW.zret (st := []) dX8_readWhole_97 rfl (Or.inl rfl) hK
              · have hf := (if_pos hc).symm.trans hf
                refine AW.iconst (v := (1 : Int32)) dX8_readWhole_92 (by decide) ?_
                refine AW.goto (tgt := 97) dX8_readWhole_93 (by decide) ?_
                obtain rfl := Option.some.inj hf
                exact AW.zret (st := []) dX8_readWhole_97 rfl (Or.inr rfl) hK
      · have hf := (if_pos hc).symm.trans hf
        refine AW.iconst (v := (0 : Int32)) dX8_readWhole_46 (by decide) ?_
        obtain rfl := Option.some.inj hf
        exact AW.zret (st := []) dX8_readWhole_47 rfl (Or.inl rfl) hK
