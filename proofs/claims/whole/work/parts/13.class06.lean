/-! ===== methods 13.class 6 ===== -/
def f_X11_best_21 (N : Nat) (p1 : Int32) : Nat → (Nat → Nat → Int32) → (Nat → Nat → Int64) → Rh → Int32 → Int64 → Int32 → Option ((Nat → Nat → Int32) × (Nat → Nat → Int64) × (Rh) × Int32)
  | 0, _, _, _, _, _, _ => none
  | n + 1, I1, J2, R3, i4, q5, i6 => (if ((I1 32 3) ≤ i6) then some (I1, J2, R3, i4) else (Option.bind (f_X11_ruleAt N R3 I1 J2 i6) fun v7 => (((ocase v7 (some (i4, q5, I1, J2, R3)) (fun a8 => (Option.bind (f_X10_sail N R3 I1 J2 a8) fun v9 => (Option.bind (f_X10_worth N v9.2.2 v9.1 v9.2.1 p1) fun v10 => (if (v10 ≤ q5) then some (i4, q5, v9.1, v9.2.1, v9.2.2) else some (i6, v10, v9.1, v9.2.1, v9.2.2)))))) : Option (Int32 × Int64 × (Nat → Nat → Int32) × (Nat → Nat → Int64) × Rh)).bind fun j11 => f_X11_best_21 N p1 n j11.2.2.1 j11.2.2.2.1 j11.2.2.2.2 j11.1 j11.2.1 (i6 + (1 : Int32)))))
theorem l_X11_best_21 {G : Gd} {d N : Nat} {K : Ah → Option Value → Prop} {p1 : Int32}  {o : (Nat → Nat → Int32) × (Nat → Nat → Int64) × (Rh) × Int32} : ∀ (n : Nat) (I1 : Nat → Nat → Int32) (J2 : Nat → Nat → Int64) (R3 : Rh) (i4 : Int32) (q5 : Int64) (i6 : Int32), Sh R3 → f_X11_best_21 N p1 n I1 J2 R3 i4 q5 i6 = some o → (Sh o.2.2.1 → AW G mX11_best (d + 6) 0 0 K 81 [none, none, some (.int o.2.2.2), none, none, none, none, none, none] [] (o.1, o.2.1, o.2.2.1)) → AW G mX11_best (d + 6) 0 0 K 21 [some (.ref 32), some (.int p1), some (.int i4), some (.long q5), none, some (.int i6), none, none, none] [] (I1, J2, R3) := by
  intro n
  induction n with
  | zero => intro I1 J2 R3 i4 q5 i6 hs hf hE; rw [f_X11_best_21.eq_1] at hf; cases hf
  | succ n ih =>
    intro I1 J2 R3 i4 q5 i6 hs hf hE
    rw [f_X11_best_21.eq_2] at hf
    refine AW.iload dX11_best_21 rfl ?_
    refine AW.aload_n dX11_best_23 rfl ?_
    refine TW.getI (x := (I1 32 3)) fX11_103_11 hs.k32 rfl dX11_best_24 ?_
    refine AW.icmp_ge (tgt := 81) dX11_best_27 (by decide) (fun hc => ?_) (fun hc => ?_)
    · have hf := (if_pos hc).symm.trans hf
      obtain rfl := Option.some.inj hf
      exact AW.weak _ (by exact (And.intro rfl trivial)) ((show Sh R3 → _ from hE) hs)
    · have hf := (if_neg hc).symm.trans hf
      refine AW.aload_n dX11_best_30 rfl ?_
      refine AW.iload dX11_best_31 rfl ?_
      obtain ⟨v7, gv7, hf⟩ := ob_split hf
      refine TW.invv (as := [.int i6]) (rest := []) viX11_133_11 hs.k32 dX11_best_33 rfl rfl (Nat.le_of_ble_eq_true rfl) (c_X11_ruleAt hs gv7 ?_)
      show AW G mX11_best (d + 6) 0 0 K 36 [some (.ref 32), some (.int p1), some (.int i4), some (.long q5), none, some (.int i6), none, none, none] [va_rf v7] (I1, J2, R3)
      refine AW.astoreq (ls' := [some (.ref 32), some (.int p1), some (.int i4), some (.long q5), none, some (.int i6), some (va_rf v7), none, none]) dX11_best_36 (Nat.le_of_ble_eq_true rfl) rfl ?_
      refine AW.aloadq dX11_best_38 rfl ?_
      obtain ⟨j11, gj11, hf⟩ := ob_split hf
      have Kj11 : (Sh j11.2.2.2.2 → AW G mX11_best (d + 6) 0 0 K 75 [some (.ref 32), some (.int p1), some (.int j11.1), some (.long j11.2.1), none, some (.int i6), none, none, none] [] (j11.2.2.1, j11.2.2.2.1, j11.2.2.2.2)) := by
        intro hs
        refine AW.iinc (v := (i6 + (1 : Int32))) (ls' := [some (.ref 32), some (.int p1), some (.int j11.1), some (.long j11.2.1), none, some (.int (i6 + (1 : Int32))), none, none, none]) dX11_best_75 rfl rfl (Nat.le_of_ble_eq_true rfl) rfl ?_
        refine AW.goto (tgt := 21) dX11_best_78 (by decide) ?_
        exact AW.weak _ (by exact (And.intro rfl (And.intro rfl (And.intro rfl (And.intro rfl (And.intro rfl trivial)))))) (ih j11.2.2.1 j11.2.2.2.1 j11.2.2.2.2 j11.1 j11.2.1 (i6 + (1 : Int32)) hs hf hE)
      clear hf; have hf := gj11; clear gj11
      refine AW.ifnull (tgt := 75) dX11_best_40 (by decide) (fun hc => ?_) (fun a8 hc => ?_)
      · have hf := ocase_n hc hf
        try rw [hc]
        show AW G mX11_best (d + 6) 0 0 K 75 [some (.ref 32), some (.int p1), some (.int i4), some (.long q5), none, some (.int i6), some (.null), none, none] [] (I1, J2, R3)
        obtain rfl := Option.some.inj hf
        exact AW.weak _ (by exact (And.intro rfl (And.intro rfl (And.intro rfl (And.intro rfl (And.intro rfl trivial)))))) ((show Sh R3 → _ from Kj11) hs)
      · have hf := ocase_s hc hf
        try rw [hc]
        show AW G mX11_best (d + 6) 0 0 K 43 [some (.ref 32), some (.int p1), some (.int i4), some (.long q5), none, some (.int i6), some (.ref a8), none, none] [] (I1, J2, R3)
        refine AW.aload_n dX11_best_43 rfl ?_
        refine TW.getR fX11_59_11 hs.k32 (rf_some hs.r32_8) dX11_best_44 ?_
        refine AW.aload dX11_best_47 rfl ?_
        obtain ⟨v9, gv9, hf⟩ := ob_split hf
        refine TW.invv (as := [.ref a8]) (rest := []) viX11_177_10 hs.k48 dX11_best_49 rfl rfl (Nat.le_of_ble_eq_true rfl) (c_X10_sail hs gv9 (fun hs => ?_))
        show AW G mX11_best (d + 6) 0 0 K 52 [some (.ref 32), some (.int p1), some (.int i4), some (.long q5), none, some (.int i6), some (.ref a8), none, none] [] (v9.1, v9.2.1, v9.2.2)
        refine AW.aload_n dX11_best_52 rfl ?_
        refine TW.getR fX11_59_11 hs.k32 (rf_some hs.r32_8) dX11_best_53 ?_
        refine AW.iload_n dX11_best_56 rfl ?_
        obtain ⟨v10, gv10, hf⟩ := ob_split hf
        refine TW.invv (as := [.int p1]) (rest := []) viX11_188_10 hs.k48 dX11_best_57 rfl rfl (Nat.le_of_ble_eq_true rfl) (c_X10_worth hs gv10 ?_)
        show AW G mX11_best (d + 6) 0 0 K 60 [some (.ref 32), some (.int p1), some (.int i4), some (.long q5), none, some (.int i6), some (.ref a8), none, none] [.long v10] (v9.1, v9.2.1, v9.2.2)
        refine AW.lstore (ls' := [some (.ref 32), some (.int p1), some (.int i4), some (.long q5), none, some (.int i6), some (.ref a8), some (.long v10), none]) dX11_best_60 (Nat.le_of_ble_eq_true rfl) rfl ?_
        refine AW.lload dX11_best_62 rfl ?_
        refine AW.lload_n dX11_best_64 rfl ?_
        refine AW.lcmp dX11_best_65 ?_
        refine AW.if_le (tgt := 75) dX11_best_66 (by decide) (fun hc => ?_) (fun hc => ?_)
        · have hc : (v10 ≤ q5) := (lc_le _ _).mp hc; have hf := (if_pos hc).symm.trans hf
          obtain rfl := Option.some.inj hf
          exact AW.weak _ (by exact (And.intro rfl (And.intro rfl (And.intro rfl (And.intro rfl (And.intro rfl trivial)))))) ((show Sh v9.2.2 → _ from Kj11) hs)
        · have hc : ¬ (v10 ≤ q5) := fun z => hc ((lc_le _ _).mpr z); have hf := (if_neg hc).symm.trans hf
          refine AW.lload dX11_best_69 rfl ?_
          refine AW.lstore_n (ls' := [some (.ref 32), some (.int p1), some (.int i4), some (.long v10), none, some (.int i6), some (.ref a8), some (.long v10), none]) dX11_best_71 (Nat.le_of_ble_eq_true rfl) rfl ?_
          refine AW.iload dX11_best_72 rfl ?_
          refine AW.istore_n (ls' := [some (.ref 32), some (.int p1), some (.int i6), some (.long v10), none, some (.int i6), some (.ref a8), some (.long v10), none]) dX11_best_74 (Nat.le_of_ble_eq_true rfl) rfl ?_
          obtain rfl := Option.some.inj hf
          exact AW.weak _ (by exact (And.intro rfl (And.intro rfl (And.intro rfl (And.intro rfl (And.intro rfl trivial)))))) ((show Sh v9.2.2 → _ from Kj11) hs)
def f_X11_best (N : Nat) (ρ : Rh) (I : Nat → Nat → Int32) (J : Nat → Nat → Int64) (p1 : Int32) : Option ((Nat → Nat → Int32) × (Nat → Nat → Int64) × (Rh) × Int32) := (if (p1 < (0 : Int32)) then some (I, J, ρ, (-2 : Int32)) else (if (p1 ≤ (1 : Int32)) then ((f_X11_best_21 N p1 N I J ρ (-1 : Int32) (-1 : Int64) (0 : Int32)).bind fun j12 => some (j12.1, j12.2.1, j12.2.2.1, j12.2.2.2)) else some (I, J, ρ, (-2 : Int32))))
theorem c_X11_best {G : Gd} {d N : Nat} {K : Ah → Option Value → Prop} {ρ : Rh} {I : Nat → Nat → Int32} {J : Nat → Nat → Int64} {p1 : Int32} {o : (Nat → Nat → Int32) × (Nat → Nat → Int64) × (Rh) × Int32} (hs : Sh ρ) (hf : f_X11_best N ρ I J p1 = some o) (hK : (Sh o.2.2.1 → K (o.1, o.2.1, o.2.2.1) (some (.int o.2.2.2)))) : AM G (d + 6) 0 0 mX11_best [.ref 32, .int p1] (I, J, ρ) K := by
  unfold f_X11_best at hf
  refine AM.intro okX11_best.2.2.2.1 (Nat.le_of_ble_eq_true rfl) [some (.ref 32), some (.int p1), none, none, none, none, none, none, none] rfl ?_
  refine AW.iload_n dX11_best_0 rfl ?_
  refine AW.if_lt (tgt := 9) dX11_best_1 (by decide) (fun hc => ?_) (fun hc => ?_)
  · have hf := (if_pos hc).symm.trans hf
    refine AW.bipush (v := (-2 : Int32)) dX11_best_9 (by decide) ?_
    obtain rfl := Option.some.inj hf
    exact AW.iret (st := []) dX11_best_11 rfl ((show Sh ρ → _ from hK) hs)
  · have hf := (if_neg hc).symm.trans hf
    refine AW.iload_n dX11_best_4 rfl ?_
    refine AW.iconst (v := (1 : Int32)) dX11_best_5 (by decide) ?_
    refine AW.icmp_le (tgt := 12) dX11_best_6 (by decide) (fun hc => ?_) (fun hc => ?_)
    · have hf := (if_pos hc).symm.trans hf
      refine AW.iconst (v := (-1 : Int32)) dX11_best_12 (by decide) ?_
      refine AW.istore_n (ls' := [some (.ref 32), some (.int p1), some (.int (-1 : Int32)), none, none, none, none, none, none]) dX11_best_13 (Nat.le_of_ble_eq_true rfl) rfl ?_
      refine AW.ldc2 dX11_best_14 kcX11_214 ?_
      refine AW.lstore_n (ls' := [some (.ref 32), some (.int p1), some (.int (-1 : Int32)), some (.long (-1 : Int64)), none, none, none, none, none]) dX11_best_17 (Nat.le_of_ble_eq_true rfl) rfl ?_
      refine AW.iconst (v := (0 : Int32)) dX11_best_18 (by decide) ?_
      refine AW.istore (ls' := [some (.ref 32), some (.int p1), some (.int (-1 : Int32)), some (.long (-1 : Int64)), none, some (.int (0 : Int32)), none, none, none]) dX11_best_19 (Nat.le_of_ble_eq_true rfl) rfl ?_
      obtain ⟨j12, gj12, hf⟩ := ob_split hf
      refine AW.weak _ (by exact (And.intro rfl (And.intro rfl (And.intro rfl (And.intro rfl (And.intro rfl trivial)))))) (l_X11_best_21 N I J ρ (-1 : Int32) (-1 : Int64) (0 : Int32) hs gj12 (fun hs => ?_))
      show AW G mX11_best (d + 6) 0 0 K 81 [none, none, some (.int j12.2.2.2), none, none, none, none, none, none] [] (j12.1, j12.2.1, j12.2.2.1)
      refine AW.iload_n dX11_best_81 rfl ?_
      obtain rfl := Option.some.inj hf
      exact AW.iret (st := []) dX11_best_82 rfl ((show Sh j12.2.2.1 → _ from hK) hs)
    · have hf := (if_neg hc).symm.trans hf
      refine AW.bipush (v := (-2 : Int32)) dX11_best_9 (by decide) ?_
      obtain rfl := Option.some.inj hf
      exact AW.iret (st := []) dX11_best_11 rfl ((show Sh ρ → _ from hK) hs)
def f_X11_rations_23 (N : Nat) (a6 : Nat) : Nat → (Nat → Nat → Int32) → (Nat → Nat → Int64) → Rh → Int32 → Int64 → Int32 → Option ((Nat → Nat → Int32) × (Nat → Nat → Int64) × (Rh) × Int32)
  | 0, _, _, _, _, _, _ => none
  | n + 1, I3, J4, R5, i7, q8, i9 => (if ((99 : Int32) < i9) then some (I3, J4, R5, i7) else (Option.bind (f_X10_sailAs N R5 I3 J4 a6 i9 (255 : Int32) (-1 : Int32) (0 : Int32)) fun v10 => (Option.bind (f_X10_worth N v10.2.2 v10.1 v10.2.1 (0 : Int32)) fun v11 => (((if (v11 ≤ q8) then some (i7, q8) else some (i9, v11)) : Option (Int32 × Int64)).bind fun j12 => f_X11_rations_23 N a6 n v10.1 v10.2.1 v10.2.2 j12.1 j12.2 (i9 + (1 : Int32))))))
theorem l_X11_rations_23 {G : Gd} {d N : Nat} {K : Ah → Option Value → Prop} {a6 : Nat}  {o : (Nat → Nat → Int32) × (Nat → Nat → Int64) × (Rh) × Int32} : ∀ (n : Nat) (I3 : Nat → Nat → Int32) (J4 : Nat → Nat → Int64) (R5 : Rh) (i7 : Int32) (q8 : Int64) (i9 : Int32), Sh R5 → f_X11_rations_23 N a6 n I3 J4 R5 i7 q8 i9 = some o → (Sh o.2.2.1 → AW G mX11_rations (d + 5) 0 0 K 76 [none, none, none, some (.int o.2.2.2), none, none, none, none, none] [] (o.1, o.2.1, o.2.2.1)) → AW G mX11_rations (d + 5) 0 0 K 23 [some (.ref 32), none, some (.ref a6), some (.int i7), some (.long q8), none, some (.int i9), none, none] [] (I3, J4, R5) := by
  intro n
  induction n with
  | zero => intro I3 J4 R5 i7 q8 i9 hs hf hE; rw [f_X11_rations_23.eq_1] at hf; cases hf
  | succ n ih =>
    intro I3 J4 R5 i7 q8 i9 hs hf hE
    rw [f_X11_rations_23.eq_2] at hf
    refine AW.iload dX11_rations_23 rfl ?_
    refine AW.bipush (v := (99 : Int32)) dX11_rations_25 (by decide) ?_
    refine AW.icmp_gt (tgt := 76) dX11_rations_27 (by decide) (fun hc => ?_) (fun hc => ?_)
    · have hf := (if_pos hc).symm.trans hf
      obtain rfl := Option.some.inj hf
      exact AW.weak _ (by exact (And.intro rfl trivial)) ((show Sh R5 → _ from hE) hs)
    · have hf := (if_neg hc).symm.trans hf
      refine AW.aload_n dX11_rations_30 rfl ?_
      refine TW.getR fX11_59_11 hs.k32 (rf_some hs.r32_8) dX11_rations_31 ?_
      refine AW.aload_n dX11_rations_34 rfl ?_
      refine AW.iload dX11_rations_35 rfl ?_
      refine AW.sipush (v := (255 : Int32)) dX11_rations_37 (by decide) ?_
      refine AW.iconst (v := (-1 : Int32)) dX11_rations_40 (by decide) ?_
      refine AW.iconst (v := (0 : Int32)) dX11_rations_41 (by decide) ?_
      obtain ⟨v10, gv10, hf⟩ := ob_split hf
      refine TW.invv (as := [.ref a6, .int i9, .int (255 : Int32), .int (-1 : Int32), .int (0 : Int32)]) (rest := []) viX11_216_10 hs.k48 dX11_rations_42 rfl rfl (Nat.le_of_ble_eq_true rfl) (c_X10_sailAs hs gv10 (fun hs => ?_))
      show AW G mX11_rations (d + 5) 0 0 K 45 [some (.ref 32), none, some (.ref a6), some (.int i7), some (.long q8), none, some (.int i9), none, none] [] (v10.1, v10.2.1, v10.2.2)
      refine AW.aload_n dX11_rations_45 rfl ?_
      refine TW.getR fX11_59_11 hs.k32 (rf_some hs.r32_8) dX11_rations_46 ?_
      refine AW.iconst (v := (0 : Int32)) dX11_rations_49 (by decide) ?_
      obtain ⟨v11, gv11, hf⟩ := ob_split hf
      refine TW.invv (as := [.int (0 : Int32)]) (rest := []) viX11_188_10 hs.k48 dX11_rations_50 rfl rfl (Nat.le_of_ble_eq_true rfl) (c_X10_worth hs gv11 ?_)
      show AW G mX11_rations (d + 5) 0 0 K 53 [some (.ref 32), none, some (.ref a6), some (.int i7), some (.long q8), none, some (.int i9), none, none] [.long v11] (v10.1, v10.2.1, v10.2.2)
      refine AW.lstore (ls' := [some (.ref 32), none, some (.ref a6), some (.int i7), some (.long q8), none, some (.int i9), some (.long v11), none]) dX11_rations_53 (Nat.le_of_ble_eq_true rfl) rfl ?_
      refine AW.lload dX11_rations_55 rfl ?_
      refine AW.lload dX11_rations_57 rfl ?_
      refine AW.lcmp dX11_rations_59 ?_
      obtain ⟨j12, gj12, hf⟩ := ob_split hf
      have Kj12 : AW G mX11_rations (d + 5) 0 0 K 70 [some (.ref 32), none, some (.ref a6), some (.int j12.1), some (.long j12.2), none, some (.int i9), none, none] [] (v10.1, v10.2.1, v10.2.2) := by
        refine AW.iinc (v := (i9 + (1 : Int32))) (ls' := [some (.ref 32), none, some (.ref a6), some (.int j12.1), some (.long j12.2), none, some (.int (i9 + (1 : Int32))), none, none]) dX11_rations_70 rfl rfl (Nat.le_of_ble_eq_true rfl) rfl ?_
        refine AW.goto (tgt := 23) dX11_rations_73 (by decide) ?_
        exact AW.weak _ (by exact (And.intro rfl (And.intro rfl (And.intro rfl (And.intro rfl (And.intro rfl trivial)))))) (ih v10.1 v10.2.1 v10.2.2 j12.1 j12.2 (i9 + (1 : Int32)) hs hf hE)
      clear hf; have hf := gj12; clear gj12
      refine AW.if_le (tgt := 70) dX11_rations_60 (by decide) (fun hc => ?_) (fun hc => ?_)
      · have hc : (v11 ≤ q8) := (lc_le _ _).mp hc; have hf := (if_pos hc).symm.trans hf
        obtain rfl := Option.some.inj hf
        exact AW.weak _ (by exact (And.intro rfl (And.intro rfl (And.intro rfl (And.intro rfl (And.intro rfl trivial)))))) Kj12
      · have hc : ¬ (v11 ≤ q8) := fun z => hc ((lc_le _ _).mpr z); have hf := (if_neg hc).symm.trans hf
        refine AW.lload dX11_rations_63 rfl ?_
        refine AW.lstore (ls' := [some (.ref 32), none, some (.ref a6), some (.int i7), some (.long v11), none, some (.int i9), some (.long v11), none]) dX11_rations_65 (Nat.le_of_ble_eq_true rfl) rfl ?_
        refine AW.iload dX11_rations_67 rfl ?_
        refine AW.istore_n (ls' := [some (.ref 32), none, some (.ref a6), some (.int i9), some (.long v11), none, some (.int i9), some (.long v11), none]) dX11_rations_69 (Nat.le_of_ble_eq_true rfl) rfl ?_
        obtain rfl := Option.some.inj hf
        exact AW.weak _ (by exact (And.intro rfl (And.intro rfl (And.intro rfl (And.intro rfl (And.intro rfl trivial)))))) Kj12
def f_X11_rations (N : Nat) (ρ : Rh) (I : Nat → Nat → Int32) (J : Nat → Nat → Int64) (p1 : Int32) : Option ((Nat → Nat → Int32) × (Nat → Nat → Int64) × (Rh) × Int32) := (Option.bind (f_X11_ruleAt N ρ I J p1) fun v1 => (ocase v1 (some (I, J, ρ, (-5 : Int32))) (fun a2 => ((f_X11_rations_23 N a2 N I J ρ (0 : Int32) (-1 : Int64) (0 : Int32)).bind fun j13 => some (j13.1, j13.2.1, j13.2.2.1, j13.2.2.2)))))
theorem c_X11_rations {G : Gd} {d N : Nat} {K : Ah → Option Value → Prop} {ρ : Rh} {I : Nat → Nat → Int32} {J : Nat → Nat → Int64} {p1 : Int32} {o : (Nat → Nat → Int32) × (Nat → Nat → Int64) × (Rh) × Int32} (hs : Sh ρ) (hf : f_X11_rations N ρ I J p1 = some o) (hK : (Sh o.2.2.1 → K (o.1, o.2.1, o.2.2.1) (some (.int o.2.2.2)))) : AM G (d + 5) 0 0 mX11_rations [.ref 32, .int p1] (I, J, ρ) K := by
  unfold f_X11_rations at hf
  refine AM.intro okX11_rations.2.2.2.1 (Nat.le_of_ble_eq_true rfl) [some (.ref 32), some (.int p1), none, none, none, none, none, none, none] rfl ?_
  refine AW.aload_n dX11_rations_0 rfl ?_
  refine AW.iload_n dX11_rations_1 rfl ?_
  obtain ⟨v1, gv1, hf⟩ := ob_split hf
  refine TW.invv (as := [.int p1]) (rest := []) viX11_133_11 hs.k32 dX11_rations_2 rfl rfl (Nat.le_of_ble_eq_true rfl) (c_X11_ruleAt hs gv1 ?_)
  show AW G mX11_rations (d + 5) 0 0 K 5 [some (.ref 32), some (.int p1), none, none, none, none, none, none, none] [va_rf v1] (I, J, ρ)
  refine AW.astore_nq (ls' := [some (.ref 32), some (.int p1), some (va_rf v1), none, none, none, none, none, none]) dX11_rations_5 (Nat.le_of_ble_eq_true rfl) rfl ?_
  refine AW.aload_nq dX11_rations_6 rfl ?_
  refine AW.ifnonnull (tgt := 13) dX11_rations_7 (by decide) (fun a2 hc => ?_) (fun hc => ?_)
  · have hf := ocase_s hc hf
    try rw [hc]
    show AW G mX11_rations (d + 5) 0 0 K 13 [some (.ref 32), some (.int p1), some (.ref a2), none, none, none, none, none, none] [] (I, J, ρ)
    refine AW.iconst (v := (0 : Int32)) dX11_rations_13 (by decide) ?_
    refine AW.istore_n (ls' := [some (.ref 32), some (.int p1), some (.ref a2), some (.int (0 : Int32)), none, none, none, none, none]) dX11_rations_14 (Nat.le_of_ble_eq_true rfl) rfl ?_
    refine AW.ldc2 dX11_rations_15 kcX11_214 ?_
    refine AW.lstore (ls' := [some (.ref 32), some (.int p1), some (.ref a2), some (.int (0 : Int32)), some (.long (-1 : Int64)), none, none, none, none]) dX11_rations_18 (Nat.le_of_ble_eq_true rfl) rfl ?_
    refine AW.iconst (v := (0 : Int32)) dX11_rations_20 (by decide) ?_
    refine AW.istore (ls' := [some (.ref 32), some (.int p1), some (.ref a2), some (.int (0 : Int32)), some (.long (-1 : Int64)), none, some (.int (0 : Int32)), none, none]) dX11_rations_21 (Nat.le_of_ble_eq_true rfl) rfl ?_
    obtain ⟨j13, gj13, hf⟩ := ob_split hf
    refine AW.weak _ (by exact (And.intro rfl (And.intro rfl (And.intro rfl (And.intro rfl (And.intro rfl trivial)))))) (l_X11_rations_23 N I J ρ (0 : Int32) (-1 : Int64) (0 : Int32) hs gj13 (fun hs => ?_))
    show AW G mX11_rations (d + 5) 0 0 K 76 [none, none, none, some (.int j13.2.2.2), none, none, none, none, none] [] (j13.1, j13.2.1, j13.2.2.1)
    refine AW.iload_n dX11_rations_76 rfl ?_
    obtain rfl := Option.some.inj hf
    exact AW.iret (st := []) dX11_rations_77 rfl ((show Sh j13.2.2.1 → _ from hK) hs)
  · have hf := ocase_n hc hf
    try rw [hc]
    show AW G mX11_rations (d + 5) 0 0 K 10 [some (.ref 32), some (.int p1), some (.null), none, none, none, none, none, none] [] (I, J, ρ)
    refine AW.bipush (v := (-5 : Int32)) dX11_rations_10 (by decide) ?_
    obtain rfl := Option.some.inj hf
    exact AW.iret (st := []) dX11_rations_12 rfl ((show Sh ρ → _ from hK) hs)
def f_X11_keepHomes (N : Nat) (ρ : Rh) (I : Nat → Nat → Int32) (J : Nat → Nat → Int64) (p1 : Nat) : Option ((Nat → Nat → Int32) × (Nat → Nat → Int64) × (Rh)) := (Option.bind (f_X10_sail N ρ I J p1) fun v1 => some (v1.1, (up v1.2.1 39 (cpy (v1.2.1 78) (v1.2.1 39) (tn (0 : Int32)) (tn (0 : Int32)) (tn (8 : Int32)))), v1.2.2))
theorem c_X11_keepHomes {G : Gd} {d N : Nat} {K : Ah → Option Value → Prop} {ρ : Rh} {I : Nat → Nat → Int32} {J : Nat → Nat → Int64} {p1 : Nat} {o : (Nat → Nat → Int32) × (Nat → Nat → Int64) × (Rh)} (hs : Sh ρ) (hf : f_X11_keepHomes N ρ I J p1 = some o) (hK : (Sh o.2.2 → K (o.1, o.2.1, o.2.2) none)) : AM G (d + 6) 0 0 mX11_keepHomes [.ref 32, .ref p1] (I, J, ρ) K := by
  unfold f_X11_keepHomes at hf
  refine AM.intro okX11_keepHomes.2.2.2.1 (Nat.le_of_ble_eq_true rfl) [some (.ref 32), some (.ref p1)] rfl ?_
  refine AW.aload_n dX11_keepHomes_0 rfl ?_
  refine TW.getR fX11_59_11 hs.k32 (rf_some hs.r32_8) dX11_keepHomes_1 ?_
  refine AW.aload_n dX11_keepHomes_4 rfl ?_
  obtain ⟨v1, gv1, hf⟩ := ob_split hf
  refine TW.invv (as := [.ref p1]) (rest := []) viX11_177_10 hs.k48 dX11_keepHomes_5 rfl rfl (Nat.le_of_ble_eq_true rfl) (c_X10_sail hs gv1 (fun hs => ?_))
  show AW G mX11_keepHomes (d + 6) 0 0 K 8 [some (.ref 32), some (.ref p1)] [] (v1.1, v1.2.1, v1.2.2)
  refine AW.aload_n dX11_keepHomes_8 rfl ?_
  refine TW.getR fX11_59_11 hs.k32 (rf_some hs.r32_8) dX11_keepHomes_9 ?_
  refine TW.getR fX11_181_10 hs.k48 (rf_some hs.r48_5) dX11_keepHomes_12 ?_
  refine AW.iconst (v := (0 : Int32)) dX11_keepHomes_15 (by decide) ?_
  refine AW.aload_n dX11_keepHomes_16 rfl ?_
  refine TW.getR fX11_34_11 hs.k32 (rf_some hs.r32_9) dX11_keepHomes_17 ?_
  refine AW.iconst (v := (0 : Int32)) dX11_keepHomes_20 (by decide) ?_
  refine AW.bipush (v := (8 : Int32)) dX11_keepHomes_21 (by decide) ?_
  refine TW.copyL cpX11_257 hs.k78 hs.k39 (by decide) (by decide) (by decide) (by decide) (by decide) (Nat.le_of_ble_eq_true rfl) dX11_keepHomes_23 ?_
  show AW G mX11_keepHomes (d + 6) 0 0 K 26 [some (.ref 32), some (.ref p1)] [] (v1.1, (up v1.2.1 39 (cpy (v1.2.1 78) (v1.2.1 39) (tn (0 : Int32)) (tn (0 : Int32)) (tn (8 : Int32)))), v1.2.2)
  obtain rfl := Option.some.inj hf
  exact AW.vret (st := []) dX11_keepHomes_26 rfl ((show Sh v1.2.2 → _ from hK) hs)
def f_X11_wouldTake_22 (N : Nat) (I : Nat → Nat → Int32) (J : Nat → Nat → Int64) (ρ : Rh) (p2 : Int32) : Nat → Int32 → Option (((Nat → Nat → Int32) × (Nat → Nat → Int64) × (Rh) × Int32) ⊕ (Unit))
  | 0, _ => none
  | n + 1, i2 => (if ((I 42 0) ≤ i2) then some (Sum.inr ()) else (if (((p2 >>> (i2 &&& 31)) &&& (1 : Int32)) = (1 : Int32)) then (if ¬ (i2 < 0 ∨ 8 ≤ tn i2) then (if ¬ (i2 < 0 ∨ 8 ≤ tn i2) then (if ((J 39 (tn i2)) < (J 78 (tn i2))) then f_X11_wouldTake_22 N I J ρ p2 n (i2 + (1 : Int32)) else some (Sum.inl (I, J, ρ, (0 : Int32)))) else none) else none) else f_X11_wouldTake_22 N I J ρ p2 n (i2 + (1 : Int32))))
theorem l_X11_wouldTake_22 {G : Gd} {d N : Nat} {K : Ah → Option Value → Prop} {I : Nat → Nat → Int32} {J : Nat → Nat → Int64} {ρ : Rh} {p2 : Int32} (hs : Sh ρ) {o : ((Nat → Nat → Int32) × (Nat → Nat → Int64) × (Rh) × Int32) ⊕ (Unit)} : ∀ (n : Nat) (i2 : Int32), f_X11_wouldTake_22 N I J ρ p2 n i2 = some o → scase o (fun r => (Sh r.2.2.1 → K (r.1, r.2.1, r.2.2.1) (some (.int r.2.2.2)))) (fun o => AW G mX11_wouldTake (d + 5) 0 0 K 69 [none, none, none, none] [] (I, J, ρ)) → AW G mX11_wouldTake (d + 5) 0 0 K 22 [some (.ref 32), none, some (.int p2), some (.int i2)] [] (I, J, ρ) := by
  intro n
  induction n with
  | zero => intro i2 hf hE; rw [f_X11_wouldTake_22.eq_1] at hf; cases hf
  | succ n ih =>
    intro i2 hf hE
    rw [f_X11_wouldTake_22.eq_2] at hf
    refine AW.iload_n dX11_wouldTake_22 rfl ?_
    refine AW.aload_n dX11_wouldTake_23 rfl ?_
    refine TW.getR fX11_50_11 hs.k32 (rf_some hs.r32_0) dX11_wouldTake_24 ?_
    refine TW.getI (x := (I 42 0)) fX11_71_0 hs.k42 rfl dX11_wouldTake_27 ?_
    refine AW.icmp_ge (tgt := 69) dX11_wouldTake_30 (by decide) (fun hc => ?_) (fun hc => ?_)
    · have hf := (if_pos hc).symm.trans hf
      obtain rfl := Option.some.inj hf
      exact AW.weak _ (by exact trivial) hE
    · have hf := (if_neg hc).symm.trans hf
      refine AW.iload_n dX11_wouldTake_33 rfl ?_
      refine AW.iload_n dX11_wouldTake_34 rfl ?_
      refine AW.ishr dX11_wouldTake_35 ?_
      refine AW.iconst (v := (1 : Int32)) dX11_wouldTake_36 (by decide) ?_
      refine AW.iand dX11_wouldTake_37 ?_
      refine AW.iconst (v := (1 : Int32)) dX11_wouldTake_38 (by decide) ?_
      refine AW.icmp_ne (tgt := 63) dX11_wouldTake_39 (by decide) (fun hc => ?_) (fun hc => ?_)
      · have hf := (if_neg hc).symm.trans hf
        refine AW.iinc (v := (i2 + (1 : Int32))) (ls' := [some (.ref 32), none, some (.int p2), some (.int (i2 + (1 : Int32)))]) dX11_wouldTake_63 rfl rfl (Nat.le_of_ble_eq_true rfl) rfl ?_
        refine AW.goto (tgt := 22) dX11_wouldTake_66 (by decide) ?_
        exact AW.weak _ (by exact (And.intro rfl (And.intro rfl (And.intro rfl trivial)))) (ih (i2 + (1 : Int32)) hf hE)
      · have hf := (if_pos hc).symm.trans hf
        refine AW.aload_n dX11_wouldTake_42 rfl ?_
        refine TW.getR fX11_59_11 hs.k32 (rf_some hs.r32_8) dX11_wouldTake_43 ?_
        refine TW.getR fX11_181_10 hs.k48 (rf_some hs.r48_5) dX11_wouldTake_46 ?_
        refine AW.iload_n dX11_wouldTake_49 rfl ?_
        obtain ⟨h3, hf⟩ := gd_split hf
        refine TW.lald (x := (J 78 (tn i2))) hs.k78 h3 rfl dX11_wouldTake_50 ?_
        refine AW.aload_n dX11_wouldTake_51 rfl ?_
        refine TW.getR fX11_34_11 hs.k32 (rf_some hs.r32_9) dX11_wouldTake_52 ?_
        refine AW.iload_n dX11_wouldTake_55 rfl ?_
        obtain ⟨h4, hf⟩ := gd_split hf
        refine TW.lald (x := (J 39 (tn i2))) hs.k39 h4 rfl dX11_wouldTake_56 ?_
        refine AW.lcmp dX11_wouldTake_57 ?_
        refine AW.if_gt (tgt := 63) dX11_wouldTake_58 (by decide) (fun hc => ?_) (fun hc => ?_)
        · have hc : ((J 39 (tn i2)) < (J 78 (tn i2))) := (lc_gt _ _).mp hc; have hf := (if_pos hc).symm.trans hf
          refine AW.iinc (v := (i2 + (1 : Int32))) (ls' := [some (.ref 32), none, some (.int p2), some (.int (i2 + (1 : Int32)))]) dX11_wouldTake_63 rfl rfl (Nat.le_of_ble_eq_true rfl) rfl ?_
          refine AW.goto (tgt := 22) dX11_wouldTake_66 (by decide) ?_
          exact AW.weak _ (by exact (And.intro rfl (And.intro rfl (And.intro rfl trivial)))) (ih (i2 + (1 : Int32)) hf hE)
        · have hc : ¬ ((J 39 (tn i2)) < (J 78 (tn i2))) := fun z => hc ((lc_gt _ _).mpr z); have hf := (if_neg hc).symm.trans hf
          refine AW.iconst (v := (0 : Int32)) dX11_wouldTake_61 (by decide) ?_
          obtain rfl := Option.some.inj hf
          exact AW.zret (st := []) dX11_wouldTake_62 rfl (Or.inl rfl) ((show Sh ρ → _ from hE) hs)
def f_X11_wouldTake (N : Nat) (ρ : Rh) (I : Nat → Nat → Int32) (J : Nat → Nat → Int64) (p1 : Nat) (p2 : Int32) : Option ((Nat → Nat → Int32) × (Nat → Nat → Int64) × (Rh) × Int32) := (Option.bind (f_X10_sailAs N ρ I J p1 (I 45 2) p2 (-1 : Int32) (0 : Int32)) fun v1 => ((f_X11_wouldTake_22 N v1.1 v1.2.1 v1.2.2 p2 N (0 : Int32)).bind fun j5 => scase j5 (fun r => some r) (fun j5 => some (v1.1, v1.2.1, v1.2.2, (1 : Int32)))))
theorem c_X11_wouldTake {G : Gd} {d N : Nat} {K : Ah → Option Value → Prop} {ρ : Rh} {I : Nat → Nat → Int32} {J : Nat → Nat → Int64} {p1 : Nat} {p2 : Int32} {o : (Nat → Nat → Int32) × (Nat → Nat → Int64) × (Rh) × Int32} (hs : Sh ρ) (hf : f_X11_wouldTake N ρ I J p1 p2 = some o) (hK : (Sh o.2.2.1 → K (o.1, o.2.1, o.2.2.1) (some (.int o.2.2.2)))) : AM G (d + 5) 0 0 mX11_wouldTake [.ref 32, .ref p1, .int p2] (I, J, ρ) K := by
  unfold f_X11_wouldTake at hf
  refine AM.intro okX11_wouldTake.2.2.2.1 (Nat.le_of_ble_eq_true rfl) [some (.ref 32), some (.ref p1), some (.int p2), none] rfl ?_
  refine AW.aload_n dX11_wouldTake_0 rfl ?_
  refine TW.getR fX11_59_11 hs.k32 (rf_some hs.r32_8) dX11_wouldTake_1 ?_
  refine AW.aload_n dX11_wouldTake_4 rfl ?_
  refine AW.aload_n dX11_wouldTake_5 rfl ?_
  refine TW.getR fX11_50_11 hs.k32 (rf_some hs.r32_0) dX11_wouldTake_6 ?_
  refine TW.getR fX11_94_0 hs.k42 (rf_some hs.r42_3) dX11_wouldTake_9 ?_
  refine AW.iconst (v := (2 : Int32)) dX11_wouldTake_12 (by decide) ?_
  refine TW.iald (x := (I 45 2)) hs.k45 (show ¬ ((2 : Int32) < 0 ∨ 4 ≤ (2 : Int32).toNatClampNeg) by decide) rfl dX11_wouldTake_13 ?_
  refine AW.iload_n dX11_wouldTake_14 rfl ?_
  refine AW.iconst (v := (-1 : Int32)) dX11_wouldTake_15 (by decide) ?_
  refine AW.iconst (v := (0 : Int32)) dX11_wouldTake_16 (by decide) ?_
  obtain ⟨v1, gv1, hf⟩ := ob_split hf
  refine TW.invv (as := [.ref p1, .int (I 45 2), .int p2, .int (-1 : Int32), .int (0 : Int32)]) (rest := []) viX11_216_10 hs.k48 dX11_wouldTake_17 rfl rfl (Nat.le_of_ble_eq_true rfl) (c_X10_sailAs hs gv1 (fun hs => ?_))
  show AW G mX11_wouldTake (d + 5) 0 0 K 20 [some (.ref 32), some (.ref p1), some (.int p2), none] [] (v1.1, v1.2.1, v1.2.2)
  refine AW.iconst (v := (0 : Int32)) dX11_wouldTake_20 (by decide) ?_
  refine AW.istore_n (ls' := [some (.ref 32), some (.ref p1), some (.int p2), some (.int (0 : Int32))]) dX11_wouldTake_21 (Nat.le_of_ble_eq_true rfl) rfl ?_
  obtain ⟨j5, gj5, hf⟩ := ob_split hf
  refine AW.weak _ (by exact (And.intro rfl (And.intro rfl (And.intro rfl trivial)))) (l_X11_wouldTake_22 hs N (0 : Int32) gj5 ?_)
  rcases j5 with r | j5
  · obtain rfl := Option.some.inj hf; exact hK
  · show AW G mX11_wouldTake (d + 5) 0 0 K 69 [none, none, none, none] [] (v1.1, v1.2.1, v1.2.2)
    refine AW.iconst (v := (1 : Int32)) dX11_wouldTake_69 (by decide) ?_
    obtain rfl := Option.some.inj hf
    exact AW.zret (st := []) dX11_wouldTake_70 rfl (Or.inr rfl) ((show Sh v1.2.2 → _ from hK) hs)
def f_X11_take (N : Nat) (ρ : Rh) (I : Nat → Nat → Int32) (J : Nat → Nat → Int64) (p1 : Int32) (p2 : Int32) : Option ((Nat → Nat → Int32) × (Nat → Nat → Int64) × (Rh) × Int32) := (Option.bind (f_X11_ruleAt N ρ I J p1) fun v1 => (ocase v1 (some (I, J, ρ, (-5 : Int32))) (fun a2 => (if (p2 ≤ (0 : Int32)) then some (I, J, ρ, (-7 : Int32)) else (if (p2 < ((1 : Int32) <<< ((I 42 0) &&& 31))) then (Option.bind (f_X11_keepHomes N ρ I J a2) fun v3 => (Option.bind (f_X11_wouldTake N v3.2.2 v3.1 v3.2.1 a2 p2) fun v4 => (if (v4.2.2.2 = (0 : Int32)) then some (v4.1, v4.2.1, v4.2.2.1, (0 : Int32)) else some (v4.1, v4.2.1, v4.2.2.1, (1 : Int32))))) else some (I, J, ρ, (-7 : Int32)))))))
theorem c_X11_take {G : Gd} {d N : Nat} {K : Ah → Option Value → Prop} {ρ : Rh} {I : Nat → Nat → Int32} {J : Nat → Nat → Int64} {p1 : Int32} {p2 : Int32} {o : (Nat → Nat → Int32) × (Nat → Nat → Int64) × (Rh) × Int32} (hs : Sh ρ) (hf : f_X11_take N ρ I J p1 p2 = some o) (hK : (Sh o.2.2.1 → K (o.1, o.2.1, o.2.2.1) (some (.int o.2.2.2)))) : AM G (d + 7) 0 0 mX11_take [.ref 32, .int p1, .int p2] (I, J, ρ) K := by
  unfold f_X11_take at hf
  refine AM.intro okX11_take.2.2.2.1 (Nat.le_of_ble_eq_true rfl) [some (.ref 32), some (.int p1), some (.int p2), none] rfl ?_
  refine AW.aload_n dX11_take_0 rfl ?_
  refine AW.iload_n dX11_take_1 rfl ?_
  obtain ⟨v1, gv1, hf⟩ := ob_split hf
  refine TW.invv (as := [.int p1]) (rest := []) viX11_133_11 hs.k32 dX11_take_2 rfl rfl (Nat.le_of_ble_eq_true rfl) (c_X11_ruleAt hs gv1 ?_)
  show AW G mX11_take (d + 7) 0 0 K 5 [some (.ref 32), some (.int p1), some (.int p2), none] [va_rf v1] (I, J, ρ)
  refine AW.astore_nq (ls' := [some (.ref 32), some (.int p1), some (.int p2), some (va_rf v1)]) dX11_take_5 (Nat.le_of_ble_eq_true rfl) rfl ?_
  refine AW.aload_nq dX11_take_6 rfl ?_
  refine AW.ifnonnull (tgt := 13) dX11_take_7 (by decide) (fun a2 hc => ?_) (fun hc => ?_)
  · have hf := ocase_s hc hf
    try rw [hc]
    show AW G mX11_take (d + 7) 0 0 K 13 [some (.ref 32), some (.int p1), some (.int p2), some (.ref a2)] [] (I, J, ρ)
    refine AW.iload_n dX11_take_13 rfl ?_
    refine AW.if_le (tgt := 30) dX11_take_14 (by decide) (fun hc => ?_) (fun hc => ?_)
    · have hf := (if_pos hc).symm.trans hf
      refine AW.bipush (v := (-7 : Int32)) dX11_take_30 (by decide) ?_
      obtain rfl := Option.some.inj hf
      exact AW.iret (st := []) dX11_take_32 rfl ((show Sh ρ → _ from hK) hs)
    · have hf := (if_neg hc).symm.trans hf
      refine AW.iload_n dX11_take_17 rfl ?_
      refine AW.iconst (v := (1 : Int32)) dX11_take_18 (by decide) ?_
      refine AW.aload_n dX11_take_19 rfl ?_
      refine TW.getR fX11_50_11 hs.k32 (rf_some hs.r32_0) dX11_take_20 ?_
      refine TW.getI (x := (I 42 0)) fX11_71_0 hs.k42 rfl dX11_take_23 ?_
      refine AW.ishl dX11_take_26 ?_
      refine AW.icmp_lt (tgt := 33) dX11_take_27 (by decide) (fun hc => ?_) (fun hc => ?_)
      · have hf := (if_pos hc).symm.trans hf
        refine AW.aload_n dX11_take_33 rfl ?_
        refine AW.aload_n dX11_take_34 rfl ?_
        obtain ⟨v3, gv3, hf⟩ := ob_split hf
        refine TW.invv (as := [.ref a2]) (rest := []) viX11_220_11 hs.k32 dX11_take_35 rfl rfl (Nat.le_of_ble_eq_true rfl) (c_X11_keepHomes hs gv3 (fun hs => ?_))
        show AW G mX11_take (d + 7) 0 0 K 38 [some (.ref 32), some (.int p1), some (.int p2), some (.ref a2)] [] (v3.1, v3.2.1, v3.2.2)
        refine AW.aload_n dX11_take_38 rfl ?_
        refine AW.aload_n dX11_take_39 rfl ?_
        refine AW.iload_n dX11_take_40 rfl ?_
        obtain ⟨v4, gv4, hf⟩ := ob_split hf
        refine TW.invv (as := [.ref a2, .int p2]) (rest := []) viX11_223_11 hs.k32 dX11_take_41 rfl rfl (Nat.le_of_ble_eq_true rfl) (c_X11_wouldTake hs gv4 (fun hs => ?_))
        show AW G mX11_take (d + 7) 0 0 K 44 [some (.ref 32), some (.int p1), some (.int p2), some (.ref a2)] [.int v4.2.2.2] (v4.1, v4.2.1, v4.2.2.1)
        refine AW.if_eq (tgt := 51) dX11_take_44 (by decide) (fun hc => ?_) (fun hc => ?_)
        · have hf := (if_pos hc).symm.trans hf
          refine AW.iconst (v := (0 : Int32)) dX11_take_51 (by decide) ?_
          obtain rfl := Option.some.inj hf
          exact AW.iret (st := []) dX11_take_52 rfl ((show Sh v4.2.2.1 → _ from hK) hs)
        · have hf := (if_neg hc).symm.trans hf
          refine AW.iconst (v := (1 : Int32)) dX11_take_47 (by decide) ?_
          refine AW.goto (tgt := 52) dX11_take_48 (by decide) ?_
          obtain rfl := Option.some.inj hf
          exact AW.iret (st := []) dX11_take_52 rfl ((show Sh v4.2.2.1 → _ from hK) hs)
      · have hf := (if_neg hc).symm.trans hf
        refine AW.bipush (v := (-7 : Int32)) dX11_take_30 (by decide) ?_
        obtain rfl := Option.some.inj hf
        exact AW.iret (st := []) dX11_take_32 rfl ((show Sh ρ → _ from hK) hs)
  · have hf := ocase_n hc hf
    try rw [hc]
    show AW G mX11_take (d + 7) 0 0 K 10 [some (.ref 32), some (.int p1), some (.int p2), some (.null)] [] (I, J, ρ)
    refine AW.bipush (v := (-5 : Int32)) dX11_take_10 (by decide) ?_
    obtain rfl := Option.some.inj hf
    exact AW.iret (st := []) dX11_take_12 rfl ((show Sh ρ → _ from hK) hs)
def f_J6_bitCount_0f7a4 (N : Nat) (ρ : Rh) (I : Nat → Nat → Int32) (J : Nat → Nat → Int64) (p1 : Int32) : Option (Int32) := (bnd (p1 - (((p1.toUInt32 >>> ((1 : Int32).toUInt32 &&& Int32.toUInt32 31)).toInt32) &&& (1431655765 : Int32))) fun x1 => (bnd ((x1 &&& (858993459 : Int32)) + (((x1.toUInt32 >>> ((2 : Int32).toUInt32 &&& Int32.toUInt32 31)).toInt32) &&& (858993459 : Int32))) fun x2 => (bnd ((x2 + ((x2.toUInt32 >>> ((4 : Int32).toUInt32 &&& Int32.toUInt32 31)).toInt32)) &&& (252645135 : Int32)) fun x3 => (bnd (x3 + ((x3.toUInt32 >>> ((8 : Int32).toUInt32 &&& Int32.toUInt32 31)).toInt32)) fun x4 => (bnd (x4 + ((x4.toUInt32 >>> ((16 : Int32).toUInt32 &&& Int32.toUInt32 31)).toInt32)) fun x5 => some (x5 &&& (63 : Int32)))))))
theorem c_J6_bitCount_0f7a4 {G : Gd} {d N : Nat} {K : Ah → Option Value → Prop} {ρ : Rh} {I : Nat → Nat → Int32} {J : Nat → Nat → Int64} {p1 : Int32} {o : Int32} (hs : Sh ρ) (hf : f_J6_bitCount_0f7a4 N ρ I J p1 = some o) (hK : K (I, J, ρ) (some (.int o))) : AM G d 0 0 mJ6_bitCount_0f7a4 [.int p1] (I, J, ρ) K := by
  unfold f_J6_bitCount_0f7a4 at hf
  refine AM.intro okJ6_bitCount_0f7a4.2.2.2.1 (Nat.le_of_ble_eq_true rfl) [some (.int p1)] rfl ?_
  refine AW.iload_n dJ6_bitCount_0f7a4_0 rfl ?_
  refine AW.iload_n dJ6_bitCount_0f7a4_1 rfl ?_
  refine AW.iconst (v := (1 : Int32)) dJ6_bitCount_0f7a4_2 (by decide) ?_
  refine AW.iushr dJ6_bitCount_0f7a4_3 ?_
  refine AW.ldcw dJ6_bitCount_0f7a4_4 kcJ6_265 ?_
  refine AW.iand dJ6_bitCount_0f7a4_7 ?_
  refine AW.isub dJ6_bitCount_0f7a4_8 ?_
  obtain ⟨x1, gx1, hf⟩ := bnd_one hf
  refine AW.nmI gx1 ?_
  refine AW.istore_n (ls' := [some (.int x1)]) dJ6_bitCount_0f7a4_9 (Nat.le_of_ble_eq_true rfl) rfl ?_
  refine AW.iload_n dJ6_bitCount_0f7a4_10 rfl ?_
  refine AW.ldcw dJ6_bitCount_0f7a4_11 kcJ6_266 ?_
  refine AW.iand dJ6_bitCount_0f7a4_14 ?_
  refine AW.iload_n dJ6_bitCount_0f7a4_15 rfl ?_
  refine AW.iconst (v := (2 : Int32)) dJ6_bitCount_0f7a4_16 (by decide) ?_
  refine AW.iushr dJ6_bitCount_0f7a4_17 ?_
  refine AW.ldcw dJ6_bitCount_0f7a4_18 kcJ6_266 ?_
  refine AW.iand dJ6_bitCount_0f7a4_21 ?_
  refine AW.iadd dJ6_bitCount_0f7a4_22 ?_
  obtain ⟨x2, gx2, hf⟩ := bnd_one hf
  refine AW.nmI gx2 ?_
  refine AW.istore_n (ls' := [some (.int x2)]) dJ6_bitCount_0f7a4_23 (Nat.le_of_ble_eq_true rfl) rfl ?_
  refine AW.iload_n dJ6_bitCount_0f7a4_24 rfl ?_
  refine AW.iload_n dJ6_bitCount_0f7a4_25 rfl ?_
  refine AW.iconst (v := (4 : Int32)) dJ6_bitCount_0f7a4_26 (by decide) ?_
  refine AW.iushr dJ6_bitCount_0f7a4_27 ?_
  refine AW.iadd dJ6_bitCount_0f7a4_28 ?_
  refine AW.ldcw dJ6_bitCount_0f7a4_29 kcJ6_267 ?_
  refine AW.iand dJ6_bitCount_0f7a4_32 ?_
  obtain ⟨x3, gx3, hf⟩ := bnd_one hf
  refine AW.nmI gx3 ?_
  refine AW.istore_n (ls' := [some (.int x3)]) dJ6_bitCount_0f7a4_33 (Nat.le_of_ble_eq_true rfl) rfl ?_
  refine AW.iload_n dJ6_bitCount_0f7a4_34 rfl ?_
  refine AW.iload_n dJ6_bitCount_0f7a4_35 rfl ?_
  refine AW.bipush (v := (8 : Int32)) dJ6_bitCount_0f7a4_36 (by decide) ?_
  refine AW.iushr dJ6_bitCount_0f7a4_38 ?_
  refine AW.iadd dJ6_bitCount_0f7a4_39 ?_
  obtain ⟨x4, gx4, hf⟩ := bnd_one hf
  refine AW.nmI gx4 ?_
  refine AW.istore_n (ls' := [some (.int x4)]) dJ6_bitCount_0f7a4_40 (Nat.le_of_ble_eq_true rfl) rfl ?_
  refine AW.iload_n dJ6_bitCount_0f7a4_41 rfl ?_
  refine AW.iload_n dJ6_bitCount_0f7a4_42 rfl ?_
  refine AW.bipush (v := (16 : Int32)) dJ6_bitCount_0f7a4_43 (by decide) ?_
  refine AW.iushr dJ6_bitCount_0f7a4_45 ?_
  refine AW.iadd dJ6_bitCount_0f7a4_46 ?_
  obtain ⟨x5, gx5, hf⟩ := bnd_one hf
  refine AW.nmI gx5 ?_
  refine AW.istore_n (ls' := [some (.int x5)]) dJ6_bitCount_0f7a4_47 (Nat.le_of_ble_eq_true rfl) rfl ?_
  refine AW.iload_n dJ6_bitCount_0f7a4_48 rfl ?_
  refine AW.bipush (v := (63 : Int32)) dJ6_bitCount_0f7a4_49 (by decide) ?_
  refine AW.iand dJ6_bitCount_0f7a4_51 ?_
  obtain rfl := Option.some.inj hf
  exact AW.iret (st := []) dJ6_bitCount_0f7a4_52 rfl hK
def f_X11_takes_28 (N : Nat) (a12 : Nat) (i8 : Int32) : Nat → (Nat → Nat → Int32) → (Nat → Nat → Int64) → Rh → Int32 → Option (((Nat → Nat → Int32) × (Nat → Nat → Int64) × (Rh) × Int32) ⊕ ((Nat → Nat → Int32) × (Nat → Nat → Int64) × (Rh)))
  | 0, _, _, _, _ => none
  | n + 1, I9, J10, R11, i13 => (if (((1 : Int32) <<< ((I9 42 0) &&& 31)) ≤ i13) then some (Sum.inr (I9, J10, R11)) else (Option.bind (f_J6_bitCount_0f7a4 N R11 I9 J10 i13) fun v14 => (if (v14 = i8) then (Option.bind (f_X11_wouldTake N R11 I9 J10 a12 i13) fun v15 => (if (v15.2.2.2 = (0 : Int32)) then f_X11_takes_28 N a12 i8 n v15.1 v15.2.1 v15.2.2.1 (i13 + (1 : Int32)) else some (Sum.inl (v15.1, v15.2.1, v15.2.2.1, i13)))) else f_X11_takes_28 N a12 i8 n I9 J10 R11 (i13 + (1 : Int32)))))
theorem l_X11_takes_28 {G : Gd} {d N : Nat} {K : Ah → Option Value → Prop} {a12 : Nat} {i8 : Int32}  {o : ((Nat → Nat → Int32) × (Nat → Nat → Int64) × (Rh) × Int32) ⊕ ((Nat → Nat → Int32) × (Nat → Nat → Int64) × (Rh))} : ∀ (n : Nat) (I9 : Nat → Nat → Int32) (J10 : Nat → Nat → Int64) (R11 : Rh) (i13 : Int32), Sh R11 → f_X11_takes_28 N a12 i8 n I9 J10 R11 i13 = some o → scase o (fun r => (Sh r.2.2.1 → K (r.1, r.2.1, r.2.2.1) (some (.int r.2.2.2)))) (fun o => (Sh o.2.2 → AW G mX11_takes (d + 7) 0 0 K 70 [some (.ref 32), none, some (.ref a12), some (.int i8), none] [] (o.1, o.2.1, o.2.2))) → AW G mX11_takes (d + 7) 0 0 K 28 [some (.ref 32), none, some (.ref a12), some (.int i8), some (.int i13)] [] (I9, J10, R11) := by
  intro n
  induction n with
  | zero => intro I9 J10 R11 i13 hs hf hE; rw [f_X11_takes_28.eq_1] at hf; cases hf
  | succ n ih =>
    intro I9 J10 R11 i13 hs hf hE
    rw [f_X11_takes_28.eq_2] at hf
    refine AW.iload dX11_takes_28 rfl ?_
    refine AW.iconst (v := (1 : Int32)) dX11_takes_30 (by decide) ?_
    refine AW.aload_n dX11_takes_31 rfl ?_
    refine TW.getR fX11_50_11 hs.k32 (rf_some hs.r32_0) dX11_takes_32 ?_
    refine TW.getI (x := (I9 42 0)) fX11_71_0 hs.k42 rfl dX11_takes_35 ?_
    refine AW.ishl dX11_takes_38 ?_
    refine AW.icmp_ge (tgt := 70) dX11_takes_39 (by decide) (fun hc => ?_) (fun hc => ?_)
    · have hf := (if_pos hc).symm.trans hf
      obtain rfl := Option.some.inj hf
      exact AW.weak _ (by exact (And.intro rfl (And.intro rfl (And.intro rfl trivial)))) ((show Sh R11 → _ from hE) hs)
    · have hf := (if_neg hc).symm.trans hf
      refine AW.iload dX11_takes_42 rfl ?_
      obtain ⟨v14, gv14, hf⟩ := ob_split hf
      refine TW.invs (as := [.int i13]) (rest := []) stX11_227 dX11_takes_44 rfl rfl (Nat.le_of_ble_eq_true rfl) (c_J6_bitCount_0f7a4 hs gv14 ?_)
      show AW G mX11_takes (d + 7) 0 0 K 47 [some (.ref 32), none, some (.ref a12), some (.int i8), some (.int i13)] [.int v14] (I9, J10, R11)
      refine AW.iload_n dX11_takes_47 rfl ?_
      refine AW.icmp_ne (tgt := 64) dX11_takes_48 (by decide) (fun hc => ?_) (fun hc => ?_)
      · have hf := (if_neg hc).symm.trans hf
        refine AW.iinc (v := (i13 + (1 : Int32))) (ls' := [some (.ref 32), none, some (.ref a12), some (.int i8), some (.int (i13 + (1 : Int32)))]) dX11_takes_64 rfl rfl (Nat.le_of_ble_eq_true rfl) rfl ?_
        refine AW.goto (tgt := 28) dX11_takes_67 (by decide) ?_
        exact AW.weak _ (by exact (And.intro rfl (And.intro rfl (And.intro rfl (And.intro rfl trivial))))) (ih I9 J10 R11 (i13 + (1 : Int32)) hs hf hE)
      · have hf := (if_pos hc).symm.trans hf
        refine AW.aload_n dX11_takes_51 rfl ?_
        refine AW.aload_n dX11_takes_52 rfl ?_
        refine AW.iload dX11_takes_53 rfl ?_
        obtain ⟨v15, gv15, hf⟩ := ob_split hf
        refine TW.invv (as := [.ref a12, .int i13]) (rest := []) viX11_223_11 hs.k32 dX11_takes_55 rfl rfl (Nat.le_of_ble_eq_true rfl) (c_X11_wouldTake hs gv15 (fun hs => ?_))
        show AW G mX11_takes (d + 7) 0 0 K 58 [some (.ref 32), none, some (.ref a12), some (.int i8), some (.int i13)] [.int v15.2.2.2] (v15.1, v15.2.1, v15.2.2.1)
        refine AW.if_eq (tgt := 64) dX11_takes_58 (by decide) (fun hc => ?_) (fun hc => ?_)
        · have hf := (if_pos hc).symm.trans hf
          refine AW.iinc (v := (i13 + (1 : Int32))) (ls' := [some (.ref 32), none, some (.ref a12), some (.int i8), some (.int (i13 + (1 : Int32)))]) dX11_takes_64 rfl rfl (Nat.le_of_ble_eq_true rfl) rfl ?_
          refine AW.goto (tgt := 28) dX11_takes_67 (by decide) ?_
          exact AW.weak _ (by exact (And.intro rfl (And.intro rfl (And.intro rfl (And.intro rfl trivial))))) (ih v15.1 v15.2.1 v15.2.2.1 (i13 + (1 : Int32)) hs hf hE)
        · have hf := (if_neg hc).symm.trans hf
          refine AW.iload dX11_takes_61 rfl ?_
          obtain rfl := Option.some.inj hf
          exact AW.iret (st := []) dX11_takes_63 rfl ((show Sh v15.2.2.1 → _ from hE) hs)
def f_X11_takes_20 (N : Nat) (a7 : Nat) : Nat → (Nat → Nat → Int32) → (Nat → Nat → Int64) → Rh → Int32 → Option (((Nat → Nat → Int32) × (Nat → Nat → Int64) × (Rh) × Int32) ⊕ ((Nat → Nat → Int32) × (Nat → Nat → Int64) × (Rh)))
  | 0, _, _, _, _ => none
  | n + 1, I4, J5, R6, i8 => (if ((3 : Int32) < i8) then some (Sum.inr (I4, J5, R6)) else ((f_X11_takes_28 N a7 i8 N I4 J5 R6 (1 : Int32)).bind fun j16 => scase j16 (fun r => some (Sum.inl r)) (fun j16 => f_X11_takes_20 N a7 n j16.1 j16.2.1 j16.2.2 (i8 + (1 : Int32)))))
theorem l_X11_takes_20 {G : Gd} {d N : Nat} {K : Ah → Option Value → Prop} {a7 : Nat}  {o : ((Nat → Nat → Int32) × (Nat → Nat → Int64) × (Rh) × Int32) ⊕ ((Nat → Nat → Int32) × (Nat → Nat → Int64) × (Rh))} : ∀ (n : Nat) (I4 : Nat → Nat → Int32) (J5 : Nat → Nat → Int64) (R6 : Rh) (i8 : Int32), Sh R6 → f_X11_takes_20 N a7 n I4 J5 R6 i8 = some o → scase o (fun r => (Sh r.2.2.1 → K (r.1, r.2.1, r.2.2.1) (some (.int r.2.2.2)))) (fun o => (Sh o.2.2 → AW G mX11_takes (d + 7) 0 0 K 76 [none, none, none, none, none] [] (o.1, o.2.1, o.2.2))) → AW G mX11_takes (d + 7) 0 0 K 20 [some (.ref 32), none, some (.ref a7), some (.int i8), none] [] (I4, J5, R6) := by
  intro n
  induction n with
  | zero => intro I4 J5 R6 i8 hs hf hE; rw [f_X11_takes_20.eq_1] at hf; cases hf
  | succ n ih =>
    intro I4 J5 R6 i8 hs hf hE
    rw [f_X11_takes_20.eq_2] at hf
    refine AW.iload_n dX11_takes_20 rfl ?_
    refine AW.iconst (v := (3 : Int32)) dX11_takes_21 (by decide) ?_
    refine AW.icmp_gt (tgt := 76) dX11_takes_22 (by decide) (fun hc => ?_) (fun hc => ?_)
    · have hf := (if_pos hc).symm.trans hf
      obtain rfl := Option.some.inj hf
      exact AW.weak _ (by exact trivial) ((show Sh R6 → _ from hE) hs)
    · have hf := (if_neg hc).symm.trans hf
      refine AW.iconst (v := (1 : Int32)) dX11_takes_25 (by decide) ?_
      refine AW.istore (ls' := [some (.ref 32), none, some (.ref a7), some (.int i8), some (.int (1 : Int32))]) dX11_takes_26 (Nat.le_of_ble_eq_true rfl) rfl ?_
      obtain ⟨j16, gj16, hf⟩ := ob_split hf
      refine AW.weak _ (by exact (And.intro rfl (And.intro rfl (And.intro rfl (And.intro rfl trivial))))) (l_X11_takes_28 N I4 J5 R6 (1 : Int32) hs gj16 ?_)
      rcases j16 with r | j16
      · obtain rfl := Option.some.inj hf; exact hE
      · intro hs; show AW G mX11_takes (d + 7) 0 0 K 70 [some (.ref 32), none, some (.ref a7), some (.int i8), none] [] (j16.1, j16.2.1, j16.2.2)
        refine AW.iinc (v := (i8 + (1 : Int32))) (ls' := [some (.ref 32), none, some (.ref a7), some (.int (i8 + (1 : Int32))), none]) dX11_takes_70 rfl rfl (Nat.le_of_ble_eq_true rfl) rfl ?_
        refine AW.goto (tgt := 20) dX11_takes_73 (by decide) ?_
        exact AW.weak _ (by exact (And.intro rfl (And.intro rfl (And.intro rfl trivial)))) (ih j16.1 j16.2.1 j16.2.2 (i8 + (1 : Int32)) hs hf hE)
def f_X11_takes (N : Nat) (ρ : Rh) (I : Nat → Nat → Int32) (J : Nat → Nat → Int64) (p1 : Int32) : Option ((Nat → Nat → Int32) × (Nat → Nat → Int64) × (Rh) × Int32) := (Option.bind (f_X11_ruleAt N ρ I J p1) fun v1 => (ocase v1 (some (I, J, ρ, (-5 : Int32))) (fun a2 => (Option.bind (f_X11_keepHomes N ρ I J a2) fun v3 => ((f_X11_takes_20 N a2 N v3.1 v3.2.1 v3.2.2 (1 : Int32)).bind fun j17 => scase j17 (fun r => some r) (fun j17 => some (j17.1, j17.2.1, j17.2.2, (-1 : Int32))))))))
theorem c_X11_takes {G : Gd} {d N : Nat} {K : Ah → Option Value → Prop} {ρ : Rh} {I : Nat → Nat → Int32} {J : Nat → Nat → Int64} {p1 : Int32} {o : (Nat → Nat → Int32) × (Nat → Nat → Int64) × (Rh) × Int32} (hs : Sh ρ) (hf : f_X11_takes N ρ I J p1 = some o) (hK : (Sh o.2.2.1 → K (o.1, o.2.1, o.2.2.1) (some (.int o.2.2.2)))) : AM G (d + 7) 0 0 mX11_takes [.ref 32, .int p1] (I, J, ρ) K := by
  unfold f_X11_takes at hf
  refine AM.intro okX11_takes.2.2.2.1 (Nat.le_of_ble_eq_true rfl) [some (.ref 32), some (.int p1), none, none, none] rfl ?_
  refine AW.aload_n dX11_takes_0 rfl ?_
  refine AW.iload_n dX11_takes_1 rfl ?_
  obtain ⟨v1, gv1, hf⟩ := ob_split hf
  refine TW.invv (as := [.int p1]) (rest := []) viX11_133_11 hs.k32 dX11_takes_2 rfl rfl (Nat.le_of_ble_eq_true rfl) (c_X11_ruleAt hs gv1 ?_)
  show AW G mX11_takes (d + 7) 0 0 K 5 [some (.ref 32), some (.int p1), none, none, none] [va_rf v1] (I, J, ρ)
  refine AW.astore_nq (ls' := [some (.ref 32), some (.int p1), some (va_rf v1), none, none]) dX11_takes_5 (Nat.le_of_ble_eq_true rfl) rfl ?_
  refine AW.aload_nq dX11_takes_6 rfl ?_
  refine AW.ifnonnull (tgt := 13) dX11_takes_7 (by decide) (fun a2 hc => ?_) (fun hc => ?_)
  · have hf := ocase_s hc hf
    try rw [hc]
    show AW G mX11_takes (d + 7) 0 0 K 13 [some (.ref 32), some (.int p1), some (.ref a2), none, none] [] (I, J, ρ)
    refine AW.aload_n dX11_takes_13 rfl ?_
    refine AW.aload_n dX11_takes_14 rfl ?_
    obtain ⟨v3, gv3, hf⟩ := ob_split hf
    refine TW.invv (as := [.ref a2]) (rest := []) viX11_220_11 hs.k32 dX11_takes_15 rfl rfl (Nat.le_of_ble_eq_true rfl) (c_X11_keepHomes hs gv3 (fun hs => ?_))
    show AW G mX11_takes (d + 7) 0 0 K 18 [some (.ref 32), some (.int p1), some (.ref a2), none, none] [] (v3.1, v3.2.1, v3.2.2)
    refine AW.iconst (v := (1 : Int32)) dX11_takes_18 (by decide) ?_
    refine AW.istore_n (ls' := [some (.ref 32), some (.int p1), some (.ref a2), some (.int (1 : Int32)), none]) dX11_takes_19 (Nat.le_of_ble_eq_true rfl) rfl ?_
    obtain ⟨j17, gj17, hf⟩ := ob_split hf
    refine AW.weak _ (by exact (And.intro rfl (And.intro rfl (And.intro rfl trivial)))) (l_X11_takes_20 N v3.1 v3.2.1 v3.2.2 (1 : Int32) hs gj17 ?_)
    rcases j17 with r | j17
    · obtain rfl := Option.some.inj hf; exact hK
    · intro hs; show AW G mX11_takes (d + 7) 0 0 K 76 [none, none, none, none, none] [] (j17.1, j17.2.1, j17.2.2)
      refine AW.iconst (v := (-1 : Int32)) dX11_takes_76 (by decide) ?_
      obtain rfl := Option.some.inj hf
      exact AW.iret (st := []) dX11_takes_77 rfl ((show Sh j17.2.2 → _ from hK) hs)
  · have hf := ocase_n hc hf
    try rw [hc]
    show AW G mX11_takes (d + 7) 0 0 K 10 [some (.ref 32), some (.int p1), some (.null), none, none] [] (I, J, ρ)
    refine AW.bipush (v := (-5 : Int32)) dX11_takes_10 (by decide) ?_
    obtain rfl := Option.some.inj hf
    exact AW.iret (st := []) dX11_takes_12 rfl ((show Sh ρ → _ from hK) hs)
def f_X11_hid (N : Nat) (ρ : Rh) (I : Nat → Nat → Int32) (J : Nat → Nat → Int64) (p1 : Int32) (p2 : Int32) (p3 : Int32) (p4 : Int32) : Option ((Nat → Nat → Int32) × (Nat → Nat → Int64) × (Rh) × Int64) := (Option.bind (f_X11_ruleAt N ρ I J p1) fun v1 => (ocase v1 (some (I, J, ρ, (-4611686018427387904 : Int64))) (fun a2 => (Option.bind (f_X11_isMan N ρ I J p2) fun v3 => (if (v3 = (0 : Int32)) then some (I, J, ρ, (-4611686018427387904 : Int64)) else (if (p3 < (0 : Int32)) then some (I, J, ρ, (-4611686018427387904 : Int64)) else (if ((50 : Int32) < p3) then some (I, J, ρ, (-4611686018427387904 : Int64)) else (Option.bind (f_X11_isPart N ρ I J p4) fun v4 => (if (v4 = (0 : Int32)) then some (I, J, ρ, (-4611686018427387904 : Int64)) else (Option.bind (f_X11_keepHomes N ρ I J a2) fun v5 => (Option.bind (f_X10_sailAs N v5.2.2 v5.1 v5.2.1 a2 (v5.1 45 2) (255 : Int32) p2 p3) fun v6 => (if ¬ (p2 < 0 ∨ 8 ≤ tn p2) then (if ¬ (p2 < 0 ∨ 8 ≤ tn p2) then (Option.bind (f_X11_inLowestTerms N v6.2.2 v6.1 v6.2.1 ((v6.2.1 78 (tn p2)) - (v6.2.1 39 (tn p2))) p4) fun v9 => some (v6.1, v6.2.1, v6.2.2, v9)) else none) else none))))))))))))
theorem c_X11_hid {G : Gd} {d N : Nat} {K : Ah → Option Value → Prop} {ρ : Rh} {I : Nat → Nat → Int32} {J : Nat → Nat → Int64} {p1 : Int32} {p2 : Int32} {p3 : Int32} {p4 : Int32} {o : (Nat → Nat → Int32) × (Nat → Nat → Int64) × (Rh) × Int64} (hs : Sh ρ) (hf : f_X11_hid N ρ I J p1 p2 p3 p4 = some o) (hK : (Sh o.2.2.1 → K (o.1, o.2.1, o.2.2.1) (some (.long o.2.2.2)))) : AM G (d + 7) 0 0 mX11_hid [.ref 32, .int p1, .int p2, .int p3, .int p4] (I, J, ρ) K := by
  unfold f_X11_hid at hf
  refine AM.intro okX11_hid.2.2.2.1 (Nat.le_of_ble_eq_true rfl) [some (.ref 32), some (.int p1), some (.int p2), some (.int p3), some (.int p4), none] rfl ?_
  refine AW.aload_n dX11_hid_0 rfl ?_
  refine AW.iload_n dX11_hid_1 rfl ?_
  obtain ⟨v1, gv1, hf⟩ := ob_split hf
  refine TW.invv (as := [.int p1]) (rest := []) viX11_133_11 hs.k32 dX11_hid_2 rfl rfl (Nat.le_of_ble_eq_true rfl) (c_X11_ruleAt hs gv1 ?_)
  show AW G mX11_hid (d + 7) 0 0 K 5 [some (.ref 32), some (.int p1), some (.int p2), some (.int p3), some (.int p4), none] [va_rf v1] (I, J, ρ)
  refine AW.astoreq (ls' := [some (.ref 32), some (.int p1), some (.int p2), some (.int p3), some (.int p4), some (va_rf v1)]) dX11_hid_5 (Nat.le_of_ble_eq_true rfl) rfl ?_
  refine AW.aloadq dX11_hid_7 rfl ?_
  refine AW.ifnull (tgt := 38) dX11_hid_9 (by decide) (fun hc => ?_) (fun a2 hc => ?_)
  · have hf := ocase_n hc hf
    try rw [hc]
    show AW G mX11_hid (d + 7) 0 0 K 38 [some (.ref 32), some (.int p1), some (.int p2), some (.int p3), some (.int p4), some (.null)] [] (I, J, ρ)
    refine AW.ldc2 dX11_hid_38 kcX11_175 ?_
    obtain rfl := Option.some.inj hf
    exact AW.lret (st := []) dX11_hid_41 rfl ((show Sh ρ → _ from hK) hs)
  · have hf := ocase_s hc hf
    try rw [hc]
    show AW G mX11_hid (d + 7) 0 0 K 12 [some (.ref 32), some (.int p1), some (.int p2), some (.int p3), some (.int p4), some (.ref a2)] [] (I, J, ρ)
    refine AW.aload_n dX11_hid_12 rfl ?_
    refine AW.iload_n dX11_hid_13 rfl ?_
    obtain ⟨v3, gv3, hf⟩ := ob_split hf
    refine TW.invv (as := [.int p2]) (rest := []) viX11_81_11 hs.k32 dX11_hid_14 rfl rfl (Nat.le_of_ble_eq_true rfl) (c_X11_isMan hs gv3 ?_)
    show AW G mX11_hid (d + 7) 0 0 K 17 [some (.ref 32), some (.int p1), some (.int p2), some (.int p3), some (.int p4), some (.ref a2)] [.int v3] (I, J, ρ)
    refine AW.if_eq (tgt := 38) dX11_hid_17 (by decide) (fun hc => ?_) (fun hc => ?_)
    · have hf := (if_pos hc).symm.trans hf
      refine AW.ldc2 dX11_hid_38 kcX11_175 ?_
      obtain rfl := Option.some.inj hf
      exact AW.lret (st := []) dX11_hid_41 rfl ((show Sh ρ → _ from hK) hs)
    · have hf := (if_neg hc).symm.trans hf
      refine AW.iload_n dX11_hid_20 rfl ?_
      refine AW.if_lt (tgt := 38) dX11_hid_21 (by decide) (fun hc => ?_) (fun hc => ?_)
      · have hf := (if_pos hc).symm.trans hf
        refine AW.ldc2 dX11_hid_38 kcX11_175 ?_
        obtain rfl := Option.some.inj hf
        exact AW.lret (st := []) dX11_hid_41 rfl ((show Sh ρ → _ from hK) hs)
      · have hf := (if_neg hc).symm.trans hf
        refine AW.iload_n dX11_hid_24 rfl ?_
        refine AW.bipush (v := (50 : Int32)) dX11_hid_25 (by decide) ?_
        refine AW.icmp_gt (tgt := 38) dX11_hid_27 (by decide) (fun hc => ?_) (fun hc => ?_)
        · have hf := (if_pos hc).symm.trans hf
          refine AW.ldc2 dX11_hid_38 kcX11_175 ?_
          obtain rfl := Option.some.inj hf
          exact AW.lret (st := []) dX11_hid_41 rfl ((show Sh ρ → _ from hK) hs)
        · have hf := (if_neg hc).symm.trans hf
          refine AW.iload dX11_hid_30 rfl ?_
          obtain ⟨v4, gv4, hf⟩ := ob_split hf
          refine TW.invs (as := [.int p4]) (rest := []) stX11_172 dX11_hid_32 rfl rfl (Nat.le_of_ble_eq_true rfl) (c_X11_isPart hs gv4 ?_)
          show AW G mX11_hid (d + 7) 0 0 K 35 [some (.ref 32), some (.int p1), some (.int p2), some (.int p3), some (.int p4), some (.ref a2)] [.int v4] (I, J, ρ)
          refine AW.if_ne (tgt := 42) dX11_hid_35 (by decide) (fun hc => ?_) (fun hc => ?_)
          · have hf := (if_neg hc).symm.trans hf
            refine AW.aload_n dX11_hid_42 rfl ?_
            refine AW.aload dX11_hid_43 rfl ?_
            obtain ⟨v5, gv5, hf⟩ := ob_split hf
            refine TW.invv (as := [.ref a2]) (rest := []) viX11_220_11 hs.k32 dX11_hid_45 rfl rfl (Nat.le_of_ble_eq_true rfl) (c_X11_keepHomes hs gv5 (fun hs => ?_))
            show AW G mX11_hid (d + 7) 0 0 K 48 [some (.ref 32), some (.int p1), some (.int p2), some (.int p3), some (.int p4), some (.ref a2)] [] (v5.1, v5.2.1, v5.2.2)
            refine AW.aload_n dX11_hid_48 rfl ?_
            refine TW.getR fX11_59_11 hs.k32 (rf_some hs.r32_8) dX11_hid_49 ?_
            refine AW.aload dX11_hid_52 rfl ?_
            refine AW.aload_n dX11_hid_54 rfl ?_
            refine TW.getR fX11_50_11 hs.k32 (rf_some hs.r32_0) dX11_hid_55 ?_
            refine TW.getR fX11_94_0 hs.k42 (rf_some hs.r42_3) dX11_hid_58 ?_
            refine AW.iconst (v := (2 : Int32)) dX11_hid_61 (by decide) ?_
            refine TW.iald (x := (v5.1 45 2)) hs.k45 (show ¬ ((2 : Int32) < 0 ∨ 4 ≤ (2 : Int32).toNatClampNeg) by decide) rfl dX11_hid_62 ?_
            refine AW.sipush (v := (255 : Int32)) dX11_hid_63 (by decide) ?_
            refine AW.iload_n dX11_hid_66 rfl ?_
            refine AW.iload_n dX11_hid_67 rfl ?_
            obtain ⟨v6, gv6, hf⟩ := ob_split hf
            refine TW.invv (as := [.ref a2, .int (v5.1 45 2), .int (255 : Int32), .int p2, .int p3]) (rest := []) viX11_216_10 hs.k48 dX11_hid_68 rfl rfl (Nat.le_of_ble_eq_true rfl) (c_X10_sailAs hs gv6 (fun hs => ?_))
            show AW G mX11_hid (d + 7) 0 0 K 71 [some (.ref 32), some (.int p1), some (.int p2), some (.int p3), some (.int p4), some (.ref a2)] [] (v6.1, v6.2.1, v6.2.2)
            refine AW.aload_n dX11_hid_71 rfl ?_
            refine TW.getR fX11_59_11 hs.k32 (rf_some hs.r32_8) dX11_hid_72 ?_
            refine TW.getR fX11_181_10 hs.k48 (rf_some hs.r48_5) dX11_hid_75 ?_
            refine AW.iload_n dX11_hid_78 rfl ?_
            obtain ⟨h7, hf⟩ := gd_split hf
            refine TW.lald (x := (v6.2.1 78 (tn p2))) hs.k78 h7 rfl dX11_hid_79 ?_
            refine AW.aload_n dX11_hid_80 rfl ?_
            refine TW.getR fX11_34_11 hs.k32 (rf_some hs.r32_9) dX11_hid_81 ?_
            refine AW.iload_n dX11_hid_84 rfl ?_
            obtain ⟨h8, hf⟩ := gd_split hf
            refine TW.lald (x := (v6.2.1 39 (tn p2))) hs.k39 h8 rfl dX11_hid_85 ?_
            refine AW.lsub dX11_hid_86 ?_
            refine AW.iload dX11_hid_87 rfl ?_
            obtain ⟨v9, gv9, hf⟩ := ob_split hf
            refine TW.invs (as := [.long ((v6.2.1 78 (tn p2)) - (v6.2.1 39 (tn p2))), .int p4]) (rest := []) stX11_184 dX11_hid_89 rfl rfl (Nat.le_of_ble_eq_true rfl) (c_X11_inLowestTerms hs gv9 ?_)
            show AW G mX11_hid (d + 7) 0 0 K 92 [some (.ref 32), some (.int p1), some (.int p2), some (.int p3), some (.int p4), some (.ref a2)] [.long v9] (v6.1, v6.2.1, v6.2.2)
            obtain rfl := Option.some.inj hf
            exact AW.lret (st := []) dX11_hid_92 rfl ((show Sh v6.2.2 → _ from hK) hs)
          · have hf := (if_pos hc).symm.trans hf
            refine AW.ldc2 dX11_hid_38 kcX11_175 ?_
            obtain rfl := Option.some.inj hf
            exact AW.lret (st := []) dX11_hid_41 rfl ((show Sh ρ → _ from hK) hs)
