/-! ===== methods 14.model 4 ===== -/
def f_X12_text_26 (N : Nat) (J : Nat → Nat → Int64) (ρ : Rh) : Nat → (Nat → Nat → Int32) → Int32 → Int32 → Option ((Nat → Nat → Int32) × Int32)
  | 0, _, _, _ => none
  | n + 1, I1, i2, i3 => (if ((2 : Int32) ≤ i3) then some (I1, i2) else (if (i2 = (0 : Int32)) then some (I1, i2) else (Option.bind (f_X12_next N ρ I1 J) fun v4 => (((if ((v4 89 39) = (3 : Int32)) then (if ((v4 89 40) = i3) then some (1 : Int32) else some (0 : Int32)) else some (0 : Int32)) : Option (Int32)).bind fun j5 => (if ¬ ((((4 : Int32) * (v4 89 17)) + i3) < 0 ∨ 24 ≤ tn (((4 : Int32) * (v4 89 17)) + i3)) then (((if (j5 = (0 : Int32)) then some ((0 : Int32), (u2 v4 99 (tn (((4 : Int32) * (v4 89 17)) + i3)) (v4 89 45))) else (Option.bind (f_X12_eRead N ρ (u2 v4 99 (tn (((4 : Int32) * (v4 89 17)) + i3)) (v4 89 45)) J) fun v7 => (if (v7.2 = (0 : Int32)) then some ((0 : Int32), v7.1) else some ((1 : Int32), v7.1)))) : Option (Int32 × (Nat → Nat → Int32))).bind fun j8 => f_X12_text_26 N J ρ n j8.2 j8.1 (i3 + (1 : Int32))) else none)))))
theorem l_X12_text_26 {G : Gd} {d N : Nat} {K : Ah → Option Value → Prop} {J : Nat → Nat → Int64} {ρ : Rh} (hs : Sh ρ) {o : (Nat → Nat → Int32) × Int32} : ∀ (n : Nat) (I1 : Nat → Nat → Int32) (i2 : Int32) (i3 : Int32), f_X12_text_26 N J ρ n I1 i2 i3 = some o → AW G mX12_text (d + 4) 0 0 K 101 [some (.ref 89), some (.int o.2), none] [] (o.1, J, ρ) → AW G mX12_text (d + 4) 0 0 K 26 [some (.ref 89), some (.int i2), some (.int i3)] [] (I1, J, ρ) := by
  intro n
  induction n with
  | zero => intro I1 i2 i3 hf hE; rw [f_X12_text_26.eq_1] at hf; cases hf
  | succ n ih =>
    intro I1 i2 i3 hf hE
    rw [f_X12_text_26.eq_2] at hf
    refine AW.iload_n dX12_text_26 rfl ?_
    refine AW.iconst (v := (2 : Int32)) dX12_text_27 (by decide) ?_
    refine AW.icmp_ge (tgt := 101) dX12_text_28 (by decide) (fun hc => ?_) (fun hc => ?_)
    · have hf := (if_pos hc).symm.trans hf
      obtain rfl := Option.some.inj hf
      exact AW.weak _ (by exact (And.intro rfl (And.intro rfl trivial))) hE
    · have hf := (if_neg hc).symm.trans hf
      refine AW.iload_n dX12_text_31 rfl ?_
      refine AW.if_eq (tgt := 101) dX12_text_32 (by decide) (fun hc => ?_) (fun hc => ?_)
      · have hf := (if_pos hc).symm.trans hf
        obtain rfl := Option.some.inj hf
        exact AW.weak _ (by exact (And.intro rfl (And.intro rfl trivial))) hE
      · have hf := (if_neg hc).symm.trans hf
        refine AW.aload_n dX12_text_35 rfl ?_
        obtain ⟨v4, gv4, hf⟩ := ob_split hf
        refine TW.invv (as := []) (rest := []) viX12_197_12 hs.k89 dX12_text_36 rfl rfl (Nat.le_of_ble_eq_true rfl) (c_X12_next hs gv4 ?_)
        show AW G mX12_text (d + 4) 0 0 K 39 [some (.ref 89), some (.int i2), some (.int i3)] [] (v4, J, ρ)
        refine AW.aload_n dX12_text_39 rfl ?_
        refine TW.getI (x := (v4 89 39)) fX12_165_12 hs.k89 rfl dX12_text_40 ?_
        refine AW.iconst (v := (3 : Int32)) dX12_text_43 (by decide) ?_
        obtain ⟨j5, gj5, hf⟩ := ob_split hf
        have Kj5 : AW G mX12_text (d + 4) 0 0 K 60 [some (.ref 89), none, some (.int i3)] [.int j5] (v4, J, ρ) := by
          refine AW.istore_n (ls' := [some (.ref 89), some (.int j5), some (.int i3)]) dX12_text_60 (Nat.le_of_ble_eq_true rfl) rfl ?_
          refine AW.aload_n dX12_text_61 rfl ?_
          refine TW.getR fX12_50_12 hs.k89 (rf_some hs.r89_16) dX12_text_62 ?_
          refine AW.iconst (v := (4 : Int32)) dX12_text_65 (by decide) ?_
          refine AW.aload_n dX12_text_66 rfl ?_
          refine TW.getI (x := (v4 89 17)) fX12_53_12 hs.k89 rfl dX12_text_67 ?_
          refine AW.imul dX12_text_70 ?_
          refine AW.iload_n dX12_text_71 rfl ?_
          refine AW.iadd dX12_text_72 ?_
          refine AW.aload_n dX12_text_73 rfl ?_
          refine TW.getI (x := (v4 89 45)) fX12_175_12 hs.k89 rfl dX12_text_74 ?_
          obtain ⟨h6, hf⟩ := gd_split hf
          refine TW.iast hs.k99 h6 dX12_text_77 ?_
          show AW G mX12_text (d + 4) 0 0 K 78 [some (.ref 89), some (.int j5), some (.int i3)] [] ((u2 v4 99 (tn (((4 : Int32) * (v4 89 17)) + i3)) (v4 89 45)), J, ρ)
          refine AW.iload_n dX12_text_78 rfl ?_
          obtain ⟨j8, gj8, hf⟩ := ob_split hf
          have Kj8 : AW G mX12_text (d + 4) 0 0 K 94 [some (.ref 89), none, some (.int i3)] [.int j8.1] (j8.2, J, ρ) := by
            refine AW.istore_n (ls' := [some (.ref 89), some (.int j8.1), some (.int i3)]) dX12_text_94 (Nat.le_of_ble_eq_true rfl) rfl ?_
            refine AW.iinc (v := (i3 + (1 : Int32))) (ls' := [some (.ref 89), some (.int j8.1), some (.int (i3 + (1 : Int32)))]) dX12_text_95 rfl rfl (Nat.le_of_ble_eq_true rfl) rfl ?_
            refine AW.goto (tgt := 26) dX12_text_98 (by decide) ?_
            exact AW.weak _ (by exact (And.intro rfl (And.intro rfl (And.intro rfl trivial)))) (ih j8.2 j8.1 (i3 + (1 : Int32)) hf hE)
          clear hf; have hf := gj8; clear gj8
          refine AW.if_eq (tgt := 93) dX12_text_79 (by decide) (fun hc => ?_) (fun hc => ?_)
          · have hf := (if_pos hc).symm.trans hf
            refine AW.iconst (v := (0 : Int32)) dX12_text_93 (by decide) ?_
            obtain rfl := Option.some.inj hf
            exact AW.weak _ (by exact (And.intro rfl (And.intro rfl trivial))) Kj8
          · have hf := (if_neg hc).symm.trans hf
            refine AW.aload_n dX12_text_82 rfl ?_
            obtain ⟨v7, gv7, hf⟩ := ob_split hf
            refine TW.invv (as := []) (rest := []) viX12_211_12 hs.k89 dX12_text_83 rfl rfl (Nat.le_of_ble_eq_true rfl) (c_X12_eRead hs gv7 ?_)
            show AW G mX12_text (d + 4) 0 0 K 86 [some (.ref 89), some (.int j5), some (.int i3)] [.int v7.2] (v7.1, J, ρ)
            refine AW.if_eq (tgt := 93) dX12_text_86 (by decide) (fun hc => ?_) (fun hc => ?_)
            · have hf := (if_pos hc).symm.trans hf
              refine AW.iconst (v := (0 : Int32)) dX12_text_93 (by decide) ?_
              obtain rfl := Option.some.inj hf
              exact AW.weak _ (by exact (And.intro rfl (And.intro rfl trivial))) Kj8
            · have hf := (if_neg hc).symm.trans hf
              refine AW.iconst (v := (1 : Int32)) dX12_text_89 (by decide) ?_
              refine AW.goto (tgt := 94) dX12_text_90 (by decide) ?_
              obtain rfl := Option.some.inj hf
              exact AW.weak _ (by exact (And.intro rfl (And.intro rfl trivial))) Kj8
        clear hf; have hf := gj5; clear gj5
        refine AW.icmp_ne (tgt := 59) dX12_text_44 (by decide) (fun hc => ?_) (fun hc => ?_)
        · have hf := (if_neg hc).symm.trans hf
          refine AW.iconst (v := (0 : Int32)) dX12_text_59 (by decide) ?_
          obtain rfl := Option.some.inj hf
          exact AW.weak _ (by exact (And.intro rfl (And.intro rfl trivial))) Kj5
        · have hf := (if_pos hc).symm.trans hf
          refine AW.aload_n dX12_text_47 rfl ?_
          refine TW.getI (x := (v4 89 40)) fX12_168_12 hs.k89 rfl dX12_text_48 ?_
          refine AW.iload_n dX12_text_51 rfl ?_
          refine AW.icmp_ne (tgt := 59) dX12_text_52 (by decide) (fun hc => ?_) (fun hc => ?_)
          · have hf := (if_neg hc).symm.trans hf
            refine AW.iconst (v := (0 : Int32)) dX12_text_59 (by decide) ?_
            obtain rfl := Option.some.inj hf
            exact AW.weak _ (by exact (And.intro rfl (And.intro rfl trivial))) Kj5
          · have hf := (if_pos hc).symm.trans hf
            refine AW.iconst (v := (1 : Int32)) dX12_text_55 (by decide) ?_
            refine AW.goto (tgt := 60) dX12_text_56 (by decide) ?_
            obtain rfl := Option.some.inj hf
            exact AW.weak _ (by exact (And.intro rfl (And.intro rfl trivial))) Kj5
def f_X12_text (N : Nat) (ρ : Rh) (I : Nat → Nat → Int32) (J : Nat → Nat → Int64) : Option ((Nat → Nat → Int32) × Int32) := (if ((I 89 17) = (6 : Int32)) then some (I, (-4 : Int32)) else ((f_X12_text_26 N J ρ N (u2 (u2 I 89 37 (0 : Int32)) 89 45 (0 : Int32)) (1 : Int32) (0 : Int32)).bind fun j9 => (((if (j9.2 = (0 : Int32)) then some (j9.2, j9.1) else (Option.bind (f_X12_next N ρ j9.1 J) fun v10 => (((if ((v10 89 39) = (0 : Int32)) then some (1 : Int32) else some (0 : Int32)) : Option (Int32)).bind fun j11 => some (j11, v10)))) : Option (Int32 × (Nat → Nat → Int32))).bind fun j12 => (if ¬ ((((4 : Int32) * (j12.2 89 17)) + (2 : Int32)) < 0 ∨ 24 ≤ tn (((4 : Int32) * (j12.2 89 17)) + (2 : Int32))) then (if (j12.1 = (0 : Int32)) then some ((u2 (u2 j12.2 99 (tn (((4 : Int32) * (j12.2 89 17)) + (2 : Int32))) (j12.2 89 45)) 89 14 (0 : Int32)), ((-100 : Int32) - (j12.2 89 38))) else (bnd ((j12.2 89 17) + (1 : Int32)) fun x14 => some ((u2 (u2 (u2 j12.2 99 (tn (((4 : Int32) * (j12.2 89 17)) + (2 : Int32))) (j12.2 89 45)) 89 14 (0 : Int32)) 89 17 x14), (x14 - (1 : Int32))))) else none))))
theorem c_X12_text {G : Gd} {d N : Nat} {K : Ah → Option Value → Prop} {ρ : Rh} {I : Nat → Nat → Int32} {J : Nat → Nat → Int64} {o : (Nat → Nat → Int32) × Int32} (hs : Sh ρ) (hf : f_X12_text N ρ I J = some o) (hK : K (o.1, J, ρ) (some (.int o.2))) : AM G (d + 4) 0 0 mX12_text [.ref 89] (I, J, ρ) K := by
  unfold f_X12_text at hf
  refine AM.intro okX12_text.2.2.2.1 (Nat.le_of_ble_eq_true rfl) [some (.ref 89), none, none] rfl ?_
  refine AW.aload_n dX12_text_0 rfl ?_
  refine TW.getI (x := (I 89 17)) fX12_53_12 hs.k89 rfl dX12_text_1 ?_
  refine AW.bipush (v := (6 : Int32)) dX12_text_4 (by decide) ?_
  refine AW.icmp_ne (tgt := 12) dX12_text_6 (by decide) (fun hc => ?_) (fun hc => ?_)
  · have hf := (if_neg hc).symm.trans hf
    refine AW.aload_n dX12_text_12 rfl ?_
    refine AW.iconst (v := (0 : Int32)) dX12_text_13 (by decide) ?_
    refine TW.putI fX12_159_12 hs.k89 (Or.inl rfl) dX12_text_14 ?_
    show AW G mX12_text (d + 4) 0 0 K 17 [some (.ref 89), none, none] [] ((u2 I 89 37 (0 : Int32)), J, ρ)
    refine AW.aload_n dX12_text_17 rfl ?_
    refine AW.iconst (v := (0 : Int32)) dX12_text_18 (by decide) ?_
    refine TW.putI fX12_175_12 hs.k89 (Or.inl rfl) dX12_text_19 ?_
    show AW G mX12_text (d + 4) 0 0 K 22 [some (.ref 89), none, none] [] ((u2 (u2 I 89 37 (0 : Int32)) 89 45 (0 : Int32)), J, ρ)
    refine AW.iconst (v := (1 : Int32)) dX12_text_22 (by decide) ?_
    refine AW.istore_n (ls' := [some (.ref 89), some (.int (1 : Int32)), none]) dX12_text_23 (Nat.le_of_ble_eq_true rfl) rfl ?_
    refine AW.iconst (v := (0 : Int32)) dX12_text_24 (by decide) ?_
    refine AW.istore_n (ls' := [some (.ref 89), some (.int (1 : Int32)), some (.int (0 : Int32))]) dX12_text_25 (Nat.le_of_ble_eq_true rfl) rfl ?_
    obtain ⟨j9, gj9, hf⟩ := ob_split hf
    refine AW.weak _ (by exact (And.intro rfl (And.intro rfl (And.intro rfl trivial)))) (l_X12_text_26 hs N (u2 (u2 I 89 37 (0 : Int32)) 89 45 (0 : Int32)) (1 : Int32) (0 : Int32) gj9 ?_)
    show AW G mX12_text (d + 4) 0 0 K 101 [some (.ref 89), some (.int j9.2), none] [] (j9.1, J, ρ)
    refine AW.iload_n dX12_text_101 rfl ?_
    obtain ⟨j12, gj12, hf⟩ := ob_split hf
    have Kj12 : AW G mX12_text (d + 4) 0 0 K 122 [some (.ref 89), some (.int j12.1), none] [] (j12.2, J, ρ) := by
      refine AW.aload_n dX12_text_122 rfl ?_
      refine TW.getR fX12_50_12 hs.k89 (rf_some hs.r89_16) dX12_text_123 ?_
      refine AW.iconst (v := (4 : Int32)) dX12_text_126 (by decide) ?_
      refine AW.aload_n dX12_text_127 rfl ?_
      refine TW.getI (x := (j12.2 89 17)) fX12_53_12 hs.k89 rfl dX12_text_128 ?_
      refine AW.imul dX12_text_131 ?_
      refine AW.iconst (v := (2 : Int32)) dX12_text_132 (by decide) ?_
      refine AW.iadd dX12_text_133 ?_
      refine AW.aload_n dX12_text_134 rfl ?_
      refine TW.getI (x := (j12.2 89 45)) fX12_175_12 hs.k89 rfl dX12_text_135 ?_
      obtain ⟨h13, hf⟩ := gd_split hf
      refine TW.iast hs.k99 h13 dX12_text_138 ?_
      show AW G mX12_text (d + 4) 0 0 K 139 [some (.ref 89), some (.int j12.1), none] [] ((u2 j12.2 99 (tn (((4 : Int32) * (j12.2 89 17)) + (2 : Int32))) (j12.2 89 45)), J, ρ)
      refine AW.aload_n dX12_text_139 rfl ?_
      refine AW.iconst (v := (0 : Int32)) dX12_text_140 (by decide) ?_
      refine TW.putI fX12_151_12 hs.k89 (Or.inl rfl) dX12_text_141 ?_
      show AW G mX12_text (d + 4) 0 0 K 144 [some (.ref 89), some (.int j12.1), none] [] ((u2 (u2 j12.2 99 (tn (((4 : Int32) * (j12.2 89 17)) + (2 : Int32))) (j12.2 89 45)) 89 14 (0 : Int32)), J, ρ)
      refine AW.iload_n dX12_text_144 rfl ?_
      refine AW.if_ne (tgt := 156) dX12_text_145 (by decide) (fun hc => ?_) (fun hc => ?_)
      · have hf := (if_neg hc).symm.trans hf
        refine AW.aload_n dX12_text_156 rfl ?_
        refine AW.dup dX12_text_157 rfl ?_
        refine TW.getI (x := (j12.2 89 17)) fX12_53_12 hs.k89 ((u2_nk (by decide)).trans (u2_ne (by decide))) dX12_text_158 ?_
        refine AW.iconst (v := (1 : Int32)) dX12_text_161 (by decide) ?_
        refine AW.iadd dX12_text_162 ?_
        obtain ⟨x14, gx14, hf⟩ := bnd_one hf
        refine AW.nmI gx14 ?_
        refine TW.putI fX12_53_12 hs.k89 (Or.inl rfl) dX12_text_163 ?_
        show AW G mX12_text (d + 4) 0 0 K 166 [some (.ref 89), some (.int j12.1), none] [] ((u2 (u2 (u2 j12.2 99 (tn (((4 : Int32) * (j12.2 89 17)) + (2 : Int32))) (j12.2 89 45)) 89 14 (0 : Int32)) 89 17 x14), J, ρ)
        refine AW.aload_n dX12_text_166 rfl ?_
        refine TW.getI (x := x14) fX12_53_12 hs.k89 u2_eq dX12_text_167 ?_
        refine AW.iconst (v := (1 : Int32)) dX12_text_170 (by decide) ?_
        refine AW.isub dX12_text_171 ?_
        obtain rfl := Option.some.inj hf
        exact AW.iret (st := []) dX12_text_172 rfl hK
      · have hf := (if_pos hc).symm.trans hf
        refine AW.bipush (v := (-100 : Int32)) dX12_text_148 (by decide) ?_
        refine AW.aload_n dX12_text_150 rfl ?_
        refine TW.getI (x := (j12.2 89 38)) fX12_162_12 hs.k89 ((u2_nk (by decide)).trans (u2_ne (by decide))) dX12_text_151 ?_
        refine AW.isub dX12_text_154 ?_
        obtain rfl := Option.some.inj hf
        exact AW.iret (st := []) dX12_text_155 rfl hK
    clear hf; have hf := gj12; clear gj12
    refine AW.if_eq (tgt := 122) dX12_text_102 (by decide) (fun hc => ?_) (fun hc => ?_)
    · have hf := (if_pos hc).symm.trans hf
      obtain rfl := Option.some.inj hf
      exact AW.weak _ (by exact (And.intro rfl (And.intro rfl trivial))) Kj12
    · have hf := (if_neg hc).symm.trans hf
      refine AW.aload_n dX12_text_105 rfl ?_
      obtain ⟨v10, gv10, hf⟩ := ob_split hf
      refine TW.invv (as := []) (rest := []) viX12_197_12 hs.k89 dX12_text_106 rfl rfl (Nat.le_of_ble_eq_true rfl) (c_X12_next hs gv10 ?_)
      show AW G mX12_text (d + 4) 0 0 K 109 [some (.ref 89), some (.int j9.2), none] [] (v10, J, ρ)
      refine AW.aload_n dX12_text_109 rfl ?_
      refine TW.getI (x := (v10 89 39)) fX12_165_12 hs.k89 rfl dX12_text_110 ?_
      obtain ⟨j11, gj11, hf⟩ := ob_split hf
      have Kj11 : AW G mX12_text (d + 4) 0 0 K 121 [some (.ref 89), none, none] [.int j11] (v10, J, ρ) := by
        refine AW.istore_n (ls' := [some (.ref 89), some (.int j11), none]) dX12_text_121 (Nat.le_of_ble_eq_true rfl) rfl ?_
        obtain rfl := Option.some.inj hf
        exact AW.weak _ (by exact (And.intro rfl (And.intro rfl trivial))) Kj12
      clear hf; have hf := gj11; clear gj11
      refine AW.if_ne (tgt := 120) dX12_text_113 (by decide) (fun hc => ?_) (fun hc => ?_)
      · have hf := (if_neg hc).symm.trans hf
        refine AW.iconst (v := (0 : Int32)) dX12_text_120 (by decide) ?_
        obtain rfl := Option.some.inj hf
        exact AW.weak _ (by exact (And.intro rfl trivial)) Kj11
      · have hf := (if_pos hc).symm.trans hf
        refine AW.iconst (v := (1 : Int32)) dX12_text_116 (by decide) ?_
        refine AW.goto (tgt := 121) dX12_text_117 (by decide) ?_
        obtain rfl := Option.some.inj hf
        exact AW.weak _ (by exact (And.intro rfl trivial)) Kj11
  · have hf := (if_pos hc).symm.trans hf
    refine AW.bipush (v := (-4 : Int32)) dX12_text_9 (by decide) ?_
    obtain rfl := Option.some.inj hf
    exact AW.iret (st := []) dX12_text_11 rfl hK
def f_X12_two (N : Nat) (ρ : Rh) (I : Nat → Nat → Int32) (J : Nat → Nat → Int64) (p1 : Int32) (p2 : Int32) (p3 : Int32) : Option (Int32) := (if p1 = (11 : Int32) then (if (p2 = (0 : Int32)) then (if (p3 = (0 : Int32)) then some (0 : Int32) else some (1 : Int32)) else some (1 : Int32)) else (if p1 = (12 : Int32) then (if (p2 = (0 : Int32)) then some (0 : Int32) else (if (p3 = (0 : Int32)) then some (0 : Int32) else some (1 : Int32))) else (if p1 = (14 : Int32) then (if (p3 ≤ p2) then some (0 : Int32) else some (1 : Int32)) else (if p1 = (15 : Int32) then (if (p2 = p3) then some (1 : Int32) else some (0 : Int32)) else (if p1 = (16 : Int32) then some (p2 + p3) else (if p1 = (17 : Int32) then some (p2 - p3) else some (p2 * p3)))))))
theorem c_X12_two {G : Gd} {d N : Nat} {K : Ah → Option Value → Prop} {ρ : Rh} {I : Nat → Nat → Int32} {J : Nat → Nat → Int64} {p1 : Int32} {p2 : Int32} {p3 : Int32} {o : Int32} (hs : Sh ρ) (hf : f_X12_two N ρ I J p1 p2 p3 = some o) (hK : K (I, J, ρ) (some (.int o))) : AM G d 0 0 mX12_two [.int p1, .int p2, .int p3] (I, J, ρ) K := by
  unfold f_X12_two at hf
  refine AM.intro okX12_two.2.2.2.1 (Nat.le_of_ble_eq_true rfl) [some (.int p1), some (.int p2), some (.int p3)] rfl ?_
  refine AW.iload_n dX12_two_0 rfl ?_
  by_cases hc11 : p1 = (11 : Int32)
  · have hf := (if_pos hc11).symm.trans hf
    refine AW.swIn (tgt := 44) dX12_two_1 (by rw [hc11]; decide) (by rw [hc11]; decide) (by rw [hc11]; rfl) (by decide) ?_
    refine AW.iload_n dX12_two_44 rfl ?_
    refine AW.if_ne (tgt := 52) dX12_two_45 (by decide) (fun hc => ?_) (fun hc => ?_)
    · have hf := (if_neg hc).symm.trans hf
      refine AW.iconst (v := (1 : Int32)) dX12_two_52 (by decide) ?_
      refine AW.goto (tgt := 57) dX12_two_53 (by decide) ?_
      obtain rfl := Option.some.inj hf
      exact AW.iret (st := []) dX12_two_57 rfl hK
    · have hf := (if_pos hc).symm.trans hf
      refine AW.iload_n dX12_two_48 rfl ?_
      refine AW.if_eq (tgt := 56) dX12_two_49 (by decide) (fun hc => ?_) (fun hc => ?_)
      · have hf := (if_pos hc).symm.trans hf
        refine AW.iconst (v := (0 : Int32)) dX12_two_56 (by decide) ?_
        obtain rfl := Option.some.inj hf
        exact AW.iret (st := []) dX12_two_57 rfl hK
      · have hf := (if_neg hc).symm.trans hf
        refine AW.iconst (v := (1 : Int32)) dX12_two_52 (by decide) ?_
        refine AW.goto (tgt := 57) dX12_two_53 (by decide) ?_
        obtain rfl := Option.some.inj hf
        exact AW.iret (st := []) dX12_two_57 rfl hK
  have hf := (if_neg hc11).symm.trans hf
  by_cases hc12 : p1 = (12 : Int32)
  · have hf := (if_pos hc12).symm.trans hf
    refine AW.swIn (tgt := 58) dX12_two_1 (by rw [hc12]; decide) (by rw [hc12]; decide) (by rw [hc12]; rfl) (by decide) ?_
    refine AW.iload_n dX12_two_58 rfl ?_
    refine AW.if_eq (tgt := 70) dX12_two_59 (by decide) (fun hc => ?_) (fun hc => ?_)
    · have hf := (if_pos hc).symm.trans hf
      refine AW.iconst (v := (0 : Int32)) dX12_two_70 (by decide) ?_
      obtain rfl := Option.some.inj hf
      exact AW.iret (st := []) dX12_two_71 rfl hK
    · have hf := (if_neg hc).symm.trans hf
      refine AW.iload_n dX12_two_62 rfl ?_
      refine AW.if_eq (tgt := 70) dX12_two_63 (by decide) (fun hc => ?_) (fun hc => ?_)
      · have hf := (if_pos hc).symm.trans hf
        refine AW.iconst (v := (0 : Int32)) dX12_two_70 (by decide) ?_
        obtain rfl := Option.some.inj hf
        exact AW.iret (st := []) dX12_two_71 rfl hK
      · have hf := (if_neg hc).symm.trans hf
        refine AW.iconst (v := (1 : Int32)) dX12_two_66 (by decide) ?_
        refine AW.goto (tgt := 71) dX12_two_67 (by decide) ?_
        obtain rfl := Option.some.inj hf
        exact AW.iret (st := []) dX12_two_71 rfl hK
  have hf := (if_neg hc12).symm.trans hf
  by_cases hc14 : p1 = (14 : Int32)
  · have hf := (if_pos hc14).symm.trans hf
    refine AW.swIn (tgt := 72) dX12_two_1 (by rw [hc14]; decide) (by rw [hc14]; decide) (by rw [hc14]; rfl) (by decide) ?_
    refine AW.iload_n dX12_two_72 rfl ?_
    refine AW.iload_n dX12_two_73 rfl ?_
    refine AW.icmp_ge (tgt := 81) dX12_two_74 (by decide) (fun hc => ?_) (fun hc => ?_)
    · have hf := (if_pos hc).symm.trans hf
      refine AW.iconst (v := (0 : Int32)) dX12_two_81 (by decide) ?_
      obtain rfl := Option.some.inj hf
      exact AW.iret (st := []) dX12_two_82 rfl hK
    · have hf := (if_neg hc).symm.trans hf
      refine AW.iconst (v := (1 : Int32)) dX12_two_77 (by decide) ?_
      refine AW.goto (tgt := 82) dX12_two_78 (by decide) ?_
      obtain rfl := Option.some.inj hf
      exact AW.iret (st := []) dX12_two_82 rfl hK
  have hf := (if_neg hc14).symm.trans hf
  by_cases hc15 : p1 = (15 : Int32)
  · have hf := (if_pos hc15).symm.trans hf
    refine AW.swIn (tgt := 83) dX12_two_1 (by rw [hc15]; decide) (by rw [hc15]; decide) (by rw [hc15]; rfl) (by decide) ?_
    refine AW.iload_n dX12_two_83 rfl ?_
    refine AW.iload_n dX12_two_84 rfl ?_
    refine AW.icmp_ne (tgt := 92) dX12_two_85 (by decide) (fun hc => ?_) (fun hc => ?_)
    · have hf := (if_neg hc).symm.trans hf
      refine AW.iconst (v := (0 : Int32)) dX12_two_92 (by decide) ?_
      obtain rfl := Option.some.inj hf
      exact AW.iret (st := []) dX12_two_93 rfl hK
    · have hf := (if_pos hc).symm.trans hf
      refine AW.iconst (v := (1 : Int32)) dX12_two_88 (by decide) ?_
      refine AW.goto (tgt := 93) dX12_two_89 (by decide) ?_
      obtain rfl := Option.some.inj hf
      exact AW.iret (st := []) dX12_two_93 rfl hK
  have hf := (if_neg hc15).symm.trans hf
  by_cases hc16 : p1 = (16 : Int32)
  · have hf := (if_pos hc16).symm.trans hf
    refine AW.swIn (tgt := 94) dX12_two_1 (by rw [hc16]; decide) (by rw [hc16]; decide) (by rw [hc16]; rfl) (by decide) ?_
    refine AW.iload_n dX12_two_94 rfl ?_
    refine AW.iload_n dX12_two_95 rfl ?_
    refine AW.iadd dX12_two_96 ?_
    obtain rfl := Option.some.inj hf
    exact AW.iret (st := []) dX12_two_97 rfl hK
  have hf := (if_neg hc16).symm.trans hf
  by_cases hc17 : p1 = (17 : Int32)
  · have hf := (if_pos hc17).symm.trans hf
    refine AW.swIn (tgt := 98) dX12_two_1 (by rw [hc17]; decide) (by rw [hc17]; decide) (by rw [hc17]; rfl) (by decide) ?_
    refine AW.iload_n dX12_two_98 rfl ?_
    refine AW.iload_n dX12_two_99 rfl ?_
    refine AW.isub dX12_two_100 ?_
    obtain rfl := Option.some.inj hf
    exact AW.iret (st := []) dX12_two_101 rfl hK
  have hf := (if_neg hc17).symm.trans hf
  have KD : AW G mX12_two d 0 0 K 102 [some (.int p1), some (.int p2), some (.int p3)] [] (I, J, ρ) := by
    refine AW.iload_n dX12_two_102 rfl ?_
    refine AW.iload_n dX12_two_103 rfl ?_
    refine AW.imul dX12_two_104 ?_
    obtain rfl := Option.some.inj hf
    exact AW.iret (st := []) dX12_two_105 rfl hK
  by_cases hc13 : p1 = (13 : Int32)
  · exact AW.swIn (tgt := 102) dX12_two_1 (by rw [hc13]; decide) (by rw [hc13]; decide) (by rw [hc13]; rfl) (by decide) KD
  have hc11 : ¬ (p1).toInt = 11 := fun q => hc11 (Int32.toInt_inj.mp q)
  have hc12 : ¬ (p1).toInt = 12 := fun q => hc12 (Int32.toInt_inj.mp q)
  have hc13 : ¬ (p1).toInt = 13 := fun q => hc13 (Int32.toInt_inj.mp q)
  have hc14 : ¬ (p1).toInt = 14 := fun q => hc14 (Int32.toInt_inj.mp q)
  have hc15 : ¬ (p1).toInt = 15 := fun q => hc15 (Int32.toInt_inj.mp q)
  have hc16 : ¬ (p1).toInt = 16 := fun q => hc16 (Int32.toInt_inj.mp q)
  have hc17 : ¬ (p1).toInt = 17 := fun q => hc17 (Int32.toInt_inj.mp q)
  exact AW.swOut dX12_two_1 (by omega) (by decide) KD
def f_X12_worth_17 (N : Nat) (J : Nat → Nat → Int64) (ρ : Rh) (p1 : Int32) (p2 : Int32) : Nat → (Nat → Nat → Int32) → Int32 → Int32 → Option ((Nat → Nat → Int32))
  | 0, _, _, _ => none
  | n + 1, I3, i4, i5 => (if ¬ (((((4 : Int32) * (I3 89 18)) + p1) + (1 : Int32)) < 0 ∨ 24 ≤ tn ((((4 : Int32) * (I3 89 18)) + p1) + (1 : Int32))) then (if ((I3 99 (tn ((((4 : Int32) * (I3 89 18)) + p1) + (1 : Int32)))) ≤ i5) then some I3 else (if ¬ ((((200 : Int32) * (I3 89 18)) + i5) < 0 ∨ 1200 ≤ tn (((200 : Int32) * (I3 89 18)) + i5)) then (bnd (I3 98 (tn (((200 : Int32) * (I3 89 18)) + i5))) fun x8 => (((if ((100000 : Int32) ≤ x8) then (((if ((11 : Int32) ≤ x8) then some (x8 - (100000 : Int32)) else (if ¬ (x8 < 0 ∨ 6 ≤ tn x8) then some (I3 113 (tn x8)) else none)) : Option (Int32)).bind fun j10 => (if ¬ (i4 < 0 ∨ 200 ≤ tn i4) then some ((i4 + (1 : Int32)), (u2 I3 112 (tn i4) j10)) else none)) else (if ((11 : Int32) ≤ x8) then (if (x8 = (13 : Int32)) then (if ¬ ((i4 - (1 : Int32)) < 0 ∨ 200 ≤ tn (i4 - (1 : Int32))) then (((if ((I3 112 (tn (i4 - (1 : Int32)))) = (0 : Int32)) then some (1 : Int32) else some (0 : Int32)) : Option (Int32)).bind fun j20 => (if ¬ ((i4 - (1 : Int32)) < 0 ∨ 200 ≤ tn (i4 - (1 : Int32))) then some (i4, (u2 I3 112 (tn (i4 - (1 : Int32))) j20)) else none)) else none) else (if (x8 = (19 : Int32)) then (if ¬ ((i4 - (1 : Int32)) < 0 ∨ 200 ≤ tn (i4 - (1 : Int32))) then (bnd (-(I3 112 (tn (i4 - (1 : Int32))))) fun x17 => (if ¬ ((i4 - (1 : Int32)) < 0 ∨ 200 ≤ tn (i4 - (1 : Int32))) then some (i4, (u2 I3 112 (tn (i4 - (1 : Int32))) x17)) else none)) else none) else (if ¬ (((i4 + (-1 : Int32)) - (1 : Int32)) < 0 ∨ 200 ≤ tn ((i4 + (-1 : Int32)) - (1 : Int32))) then (if ¬ ((i4 + (-1 : Int32)) < 0 ∨ 200 ≤ tn (i4 + (-1 : Int32))) then (Option.bind (f_X12_two N ρ I3 J x8 (I3 112 (tn ((i4 + (-1 : Int32)) - (1 : Int32)))) (I3 112 (tn (i4 + (-1 : Int32))))) fun v14 => (if ¬ (((i4 + (-1 : Int32)) - (1 : Int32)) < 0 ∨ 200 ≤ tn ((i4 + (-1 : Int32)) - (1 : Int32))) then some ((i4 + (-1 : Int32)), (u2 I3 112 (tn ((i4 + (-1 : Int32)) - (1 : Int32))) v14)) else none)) else none) else none))) else (((if ((11 : Int32) ≤ x8) then some (x8 - (100000 : Int32)) else (if ¬ (x8 < 0 ∨ 6 ≤ tn x8) then some (I3 113 (tn x8)) else none)) : Option (Int32)).bind fun j23 => (if ¬ (i4 < 0 ∨ 200 ≤ tn i4) then some ((i4 + (1 : Int32)), (u2 I3 112 (tn i4) j23)) else none)))) : Option (Int32 × (Nat → Nat → Int32))).bind fun j25 => f_X12_worth_17 N J ρ p1 p2 n j25.2 j25.1 (i5 + (1 : Int32)))) else none)) else none)
theorem l_X12_worth_17 {G : Gd} {d N : Nat} {K : Ah → Option Value → Prop} {J : Nat → Nat → Int64} {ρ : Rh} {p1 : Int32} {p2 : Int32} (hs : Sh ρ) {o : (Nat → Nat → Int32)} : ∀ (n : Nat) (I3 : Nat → Nat → Int32) (i4 : Int32) (i5 : Int32), f_X12_worth_17 N J ρ p1 p2 n I3 i4 i5 = some o → AW G mX12_worth (d + 1) 0 0 K 200 [some (.ref 89), none, some (.int p2), none, none, none] [] (o, J, ρ) → AW G mX12_worth (d + 1) 0 0 K 17 [some (.ref 89), some (.int p1), some (.int p2), some (.int i4), some (.int i5), none] [] (I3, J, ρ) := by
  intro n
  induction n with
  | zero => intro I3 i4 i5 hf hE; rw [f_X12_worth_17.eq_1] at hf; cases hf
  | succ n ih =>
    intro I3 i4 i5 hf hE
    rw [f_X12_worth_17.eq_2] at hf
    refine AW.iload dX12_worth_17 rfl ?_
    refine AW.aload_n dX12_worth_19 rfl ?_
    refine TW.getR fX12_50_12 hs.k89 (rf_some hs.r89_16) dX12_worth_20 ?_
    refine AW.iconst (v := (4 : Int32)) dX12_worth_23 (by decide) ?_
    refine AW.aload_n dX12_worth_24 rfl ?_
    refine TW.getI (x := (I3 89 18)) fX12_148_12 hs.k89 rfl dX12_worth_25 ?_
    refine AW.imul dX12_worth_28 ?_
    refine AW.iload_n dX12_worth_29 rfl ?_
    refine AW.iadd dX12_worth_30 ?_
    refine AW.iconst (v := (1 : Int32)) dX12_worth_31 (by decide) ?_
    refine AW.iadd dX12_worth_32 ?_
    obtain ⟨h6, hf⟩ := gd_split hf
    refine TW.iald (x := (I3 99 (tn ((((4 : Int32) * (I3 89 18)) + p1) + (1 : Int32))))) hs.k99 h6 rfl dX12_worth_33 ?_
    refine AW.icmp_ge (tgt := 200) dX12_worth_34 (by decide) (fun hc => ?_) (fun hc => ?_)
    · have hf := (if_pos hc).symm.trans hf
      obtain rfl := Option.some.inj hf
      exact AW.weak _ (by exact (And.intro rfl (And.intro rfl trivial))) hE
    · have hf := (if_neg hc).symm.trans hf
      refine AW.aload_n dX12_worth_37 rfl ?_
      refine TW.getR fX12_47_12 hs.k89 (rf_some hs.r89_15) dX12_worth_38 ?_
      refine AW.sipush (v := (200 : Int32)) dX12_worth_41 (by decide) ?_
      refine AW.aload_n dX12_worth_44 rfl ?_
      refine TW.getI (x := (I3 89 18)) fX12_148_12 hs.k89 rfl dX12_worth_45 ?_
      refine AW.imul dX12_worth_48 ?_
      refine AW.iload dX12_worth_49 rfl ?_
      refine AW.iadd dX12_worth_51 ?_
      obtain ⟨h7, hf⟩ := gd_split hf
      refine TW.iald (x := (I3 98 (tn (((200 : Int32) * (I3 89 18)) + i5)))) hs.k98 h7 rfl dX12_worth_52 ?_
      obtain ⟨x8, gx8, hf⟩ := bnd_one hf
      refine AW.nmI gx8 ?_
      refine AW.istore (ls' := [some (.ref 89), some (.int p1), some (.int p2), some (.int i4), some (.int i5), some (.int x8)]) dX12_worth_53 (Nat.le_of_ble_eq_true rfl) rfl ?_
      refine AW.iload dX12_worth_55 rfl ?_
      refine AW.ldc dX12_worth_57 kcX12_200 ?_
      obtain ⟨j25, gj25, hf⟩ := ob_split hf
      have Kj25 : AW G mX12_worth (d + 1) 0 0 K 194 [some (.ref 89), some (.int p1), some (.int p2), some (.int j25.1), some (.int i5), none] [] (j25.2, J, ρ) := by
        refine AW.iinc (v := (i5 + (1 : Int32))) (ls' := [some (.ref 89), some (.int p1), some (.int p2), some (.int j25.1), some (.int (i5 + (1 : Int32))), none]) dX12_worth_194 rfl rfl (Nat.le_of_ble_eq_true rfl) rfl ?_
        refine AW.goto (tgt := 17) dX12_worth_197 (by decide) ?_
        exact AW.weak _ (by exact (And.intro rfl (And.intro rfl (And.intro rfl (And.intro rfl (And.intro rfl trivial)))))) (ih j25.2 j25.1 (i5 + (1 : Int32)) hf hE)
      clear hf; have hf := gj25; clear gj25
      refine AW.icmp_ge (tgt := 69) dX12_worth_59 (by decide) (fun hc => ?_) (fun hc => ?_)
      · have hf := (if_pos hc).symm.trans hf
        refine AW.aload_n dX12_worth_69 rfl ?_
        refine TW.getR fX12_115_12 hs.k89 (rf_some hs.r89_46) dX12_worth_70 ?_
        refine AW.iload_n dX12_worth_73 rfl ?_
        refine AW.iload dX12_worth_74 rfl ?_
        refine AW.bipush (v := (11 : Int32)) dX12_worth_76 (by decide) ?_
        obtain ⟨j10, gj10, hf⟩ := ob_split hf
        have Kj10 : AW G mX12_worth (d + 1) 0 0 K 96 [some (.ref 89), some (.int p1), some (.int p2), some (.int i4), some (.int i5), none] [.int j10, .int i4, .ref 112] (I3, J, ρ) := by
          obtain ⟨h11, hf⟩ := gd_split hf
          refine TW.iast hs.k112 h11 dX12_worth_96 ?_
          show AW G mX12_worth (d + 1) 0 0 K 97 [some (.ref 89), some (.int p1), some (.int p2), some (.int i4), some (.int i5), none] [] ((u2 I3 112 (tn i4) j10), J, ρ)
          refine AW.iinc (v := (i4 + (1 : Int32))) (ls' := [some (.ref 89), some (.int p1), some (.int p2), some (.int (i4 + (1 : Int32))), some (.int i5), none]) dX12_worth_97 rfl rfl (Nat.le_of_ble_eq_true rfl) rfl ?_
          refine AW.goto (tgt := 194) dX12_worth_100 (by decide) ?_
          obtain rfl := Option.some.inj hf
          exact AW.weak _ (by exact (And.intro rfl (And.intro rfl (And.intro rfl (And.intro rfl (And.intro rfl trivial)))))) Kj25
        clear hf; have hf := gj10; clear gj10
        refine AW.icmp_ge (tgt := 91) dX12_worth_78 (by decide) (fun hc => ?_) (fun hc => ?_)
        · have hf := (if_pos hc).symm.trans hf
          refine AW.iload dX12_worth_91 rfl ?_
          refine AW.ldc dX12_worth_93 kcX12_200 ?_
          refine AW.isub dX12_worth_95 ?_
          obtain rfl := Option.some.inj hf
          exact AW.weak _ (by exact (And.intro rfl (And.intro rfl (And.intro rfl (And.intro rfl (And.intro rfl trivial)))))) Kj10
        · have hf := (if_neg hc).symm.trans hf
          refine AW.aload_n dX12_worth_81 rfl ?_
          refine TW.getR fX12_118_12 hs.k89 (rf_some hs.r89_47) dX12_worth_82 ?_
          refine AW.iload dX12_worth_85 rfl ?_
          obtain ⟨h9, hf⟩ := gd_split hf
          refine TW.iald (x := (I3 113 (tn x8))) hs.k113 h9 rfl dX12_worth_87 ?_
          refine AW.goto (tgt := 96) dX12_worth_88 (by decide) ?_
          obtain rfl := Option.some.inj hf
          exact AW.weak _ (by exact (And.intro rfl (And.intro rfl (And.intro rfl (And.intro rfl (And.intro rfl trivial)))))) Kj10
      · have hf := (if_neg hc).symm.trans hf
        refine AW.iload dX12_worth_62 rfl ?_
        refine AW.bipush (v := (11 : Int32)) dX12_worth_64 (by decide) ?_
        refine AW.icmp_ge (tgt := 103) dX12_worth_66 (by decide) (fun hc => ?_) (fun hc => ?_)
        · have hf := (if_pos hc).symm.trans hf
          refine AW.iload dX12_worth_103 rfl ?_
          refine AW.bipush (v := (13 : Int32)) dX12_worth_105 (by decide) ?_
          refine AW.icmp_ne (tgt := 137) dX12_worth_107 (by decide) (fun hc => ?_) (fun hc => ?_)
          · have hf := (if_neg hc).symm.trans hf
            refine AW.iload dX12_worth_137 rfl ?_
            refine AW.bipush (v := (19 : Int32)) dX12_worth_139 (by decide) ?_
            refine AW.icmp_ne (tgt := 164) dX12_worth_141 (by decide) (fun hc => ?_) (fun hc => ?_)
            · have hf := (if_neg hc).symm.trans hf
              refine AW.iinc (v := (i4 + (-1 : Int32))) (ls' := [some (.ref 89), some (.int p1), some (.int p2), some (.int (i4 + (-1 : Int32))), some (.int i5), some (.int x8)]) dX12_worth_164 rfl rfl (Nat.le_of_ble_eq_true rfl) rfl ?_
              refine AW.aload_n dX12_worth_167 rfl ?_
              refine TW.getR fX12_115_12 hs.k89 (rf_some hs.r89_46) dX12_worth_168 ?_
              refine AW.iload_n dX12_worth_171 rfl ?_
              refine AW.iconst (v := (1 : Int32)) dX12_worth_172 (by decide) ?_
              refine AW.isub dX12_worth_173 ?_
              refine AW.iload dX12_worth_174 rfl ?_
              refine AW.aload_n dX12_worth_176 rfl ?_
              refine TW.getR fX12_115_12 hs.k89 (rf_some hs.r89_46) dX12_worth_177 ?_
              refine AW.iload_n dX12_worth_180 rfl ?_
              refine AW.iconst (v := (1 : Int32)) dX12_worth_181 (by decide) ?_
              refine AW.isub dX12_worth_182 ?_
              obtain ⟨h12, hf⟩ := gd_split hf
              refine TW.iald (x := (I3 112 (tn ((i4 + (-1 : Int32)) - (1 : Int32))))) hs.k112 h12 rfl dX12_worth_183 ?_
              refine AW.aload_n dX12_worth_184 rfl ?_
              refine TW.getR fX12_115_12 hs.k89 (rf_some hs.r89_46) dX12_worth_185 ?_
              refine AW.iload_n dX12_worth_188 rfl ?_
              obtain ⟨h13, hf⟩ := gd_split hf
              refine TW.iald (x := (I3 112 (tn (i4 + (-1 : Int32))))) hs.k112 h13 rfl dX12_worth_189 ?_
              obtain ⟨v14, gv14, hf⟩ := ob_split hf
              refine TW.invs (as := [.int x8, .int (I3 112 (tn ((i4 + (-1 : Int32)) - (1 : Int32)))), .int (I3 112 (tn (i4 + (-1 : Int32))))]) (rest := [.int ((i4 + (-1 : Int32)) - (1 : Int32)), .ref 112]) stX12_215 dX12_worth_190 rfl rfl (Nat.le_of_ble_eq_true rfl) (c_X12_two hs gv14 ?_)
              show AW G mX12_worth (d + 1) 0 0 K 193 [some (.ref 89), some (.int p1), some (.int p2), some (.int (i4 + (-1 : Int32))), some (.int i5), some (.int x8)] [.int v14, .int ((i4 + (-1 : Int32)) - (1 : Int32)), .ref 112] (I3, J, ρ)
              obtain ⟨h15, hf⟩ := gd_split hf
              refine TW.iast hs.k112 h15 dX12_worth_193 ?_
              show AW G mX12_worth (d + 1) 0 0 K 194 [some (.ref 89), some (.int p1), some (.int p2), some (.int (i4 + (-1 : Int32))), some (.int i5), some (.int x8)] [] ((u2 I3 112 (tn ((i4 + (-1 : Int32)) - (1 : Int32))) v14), J, ρ)
              obtain rfl := Option.some.inj hf
              exact AW.weak _ (by exact (And.intro rfl (And.intro rfl (And.intro rfl (And.intro rfl (And.intro rfl trivial)))))) Kj25
            · have hf := (if_pos hc).symm.trans hf
              refine AW.aload_n dX12_worth_144 rfl ?_
              refine TW.getR fX12_115_12 hs.k89 (rf_some hs.r89_46) dX12_worth_145 ?_
              refine AW.iload_n dX12_worth_148 rfl ?_
              refine AW.iconst (v := (1 : Int32)) dX12_worth_149 (by decide) ?_
              refine AW.isub dX12_worth_150 ?_
              refine AW.aload_n dX12_worth_151 rfl ?_
              refine TW.getR fX12_115_12 hs.k89 (rf_some hs.r89_46) dX12_worth_152 ?_
              refine AW.iload_n dX12_worth_155 rfl ?_
              refine AW.iconst (v := (1 : Int32)) dX12_worth_156 (by decide) ?_
              refine AW.isub dX12_worth_157 ?_
              obtain ⟨h16, hf⟩ := gd_split hf
              refine TW.iald (x := (I3 112 (tn (i4 - (1 : Int32))))) hs.k112 h16 rfl dX12_worth_158 ?_
              refine AW.ineg dX12_worth_159 ?_
              obtain ⟨x17, gx17, hf⟩ := bnd_one hf
              refine AW.nmI gx17 ?_
              obtain ⟨h18, hf⟩ := gd_split hf
              refine TW.iast hs.k112 h18 dX12_worth_160 ?_
              show AW G mX12_worth (d + 1) 0 0 K 161 [some (.ref 89), some (.int p1), some (.int p2), some (.int i4), some (.int i5), some (.int x8)] [] ((u2 I3 112 (tn (i4 - (1 : Int32))) x17), J, ρ)
              refine AW.goto (tgt := 194) dX12_worth_161 (by decide) ?_
              obtain rfl := Option.some.inj hf
              exact AW.weak _ (by exact (And.intro rfl (And.intro rfl (And.intro rfl (And.intro rfl (And.intro rfl trivial)))))) Kj25
          · have hf := (if_pos hc).symm.trans hf
            refine AW.aload_n dX12_worth_110 rfl ?_
            refine TW.getR fX12_115_12 hs.k89 (rf_some hs.r89_46) dX12_worth_111 ?_
            refine AW.iload_n dX12_worth_114 rfl ?_
            refine AW.iconst (v := (1 : Int32)) dX12_worth_115 (by decide) ?_
            refine AW.isub dX12_worth_116 ?_
            refine AW.aload_n dX12_worth_117 rfl ?_
            refine TW.getR fX12_115_12 hs.k89 (rf_some hs.r89_46) dX12_worth_118 ?_
            refine AW.iload_n dX12_worth_121 rfl ?_
            refine AW.iconst (v := (1 : Int32)) dX12_worth_122 (by decide) ?_
            refine AW.isub dX12_worth_123 ?_
            obtain ⟨h19, hf⟩ := gd_split hf
            refine TW.iald (x := (I3 112 (tn (i4 - (1 : Int32))))) hs.k112 h19 rfl dX12_worth_124 ?_
            obtain ⟨j20, gj20, hf⟩ := ob_split hf
            have Kj20 : AW G mX12_worth (d + 1) 0 0 K 133 [some (.ref 89), some (.int p1), some (.int p2), some (.int i4), some (.int i5), none] [.int j20, .int (i4 - (1 : Int32)), .ref 112] (I3, J, ρ) := by
              obtain ⟨h21, hf⟩ := gd_split hf
              refine TW.iast hs.k112 h21 dX12_worth_133 ?_
              show AW G mX12_worth (d + 1) 0 0 K 134 [some (.ref 89), some (.int p1), some (.int p2), some (.int i4), some (.int i5), none] [] ((u2 I3 112 (tn (i4 - (1 : Int32))) j20), J, ρ)
              refine AW.goto (tgt := 194) dX12_worth_134 (by decide) ?_
              obtain rfl := Option.some.inj hf
              exact AW.weak _ (by exact (And.intro rfl (And.intro rfl (And.intro rfl (And.intro rfl (And.intro rfl trivial)))))) Kj25
            clear hf; have hf := gj20; clear gj20
            refine AW.if_ne (tgt := 132) dX12_worth_125 (by decide) (fun hc => ?_) (fun hc => ?_)
            · have hf := (if_neg hc).symm.trans hf
              refine AW.iconst (v := (0 : Int32)) dX12_worth_132 (by decide) ?_
              obtain rfl := Option.some.inj hf
              exact AW.weak _ (by exact (And.intro rfl (And.intro rfl (And.intro rfl (And.intro rfl (And.intro rfl trivial)))))) Kj20
            · have hf := (if_pos hc).symm.trans hf
              refine AW.iconst (v := (1 : Int32)) dX12_worth_128 (by decide) ?_
              refine AW.goto (tgt := 133) dX12_worth_129 (by decide) ?_
              obtain rfl := Option.some.inj hf
              exact AW.weak _ (by exact (And.intro rfl (And.intro rfl (And.intro rfl (And.intro rfl (And.intro rfl trivial)))))) Kj20
        · have hf := (if_neg hc).symm.trans hf
          refine AW.aload_n dX12_worth_69 rfl ?_
          refine TW.getR fX12_115_12 hs.k89 (rf_some hs.r89_46) dX12_worth_70 ?_
          refine AW.iload_n dX12_worth_73 rfl ?_
          refine AW.iload dX12_worth_74 rfl ?_
          refine AW.bipush (v := (11 : Int32)) dX12_worth_76 (by decide) ?_
          obtain ⟨j23, gj23, hf⟩ := ob_split hf
          have Kj23 : AW G mX12_worth (d + 1) 0 0 K 96 [some (.ref 89), some (.int p1), some (.int p2), some (.int i4), some (.int i5), none] [.int j23, .int i4, .ref 112] (I3, J, ρ) := by
            obtain ⟨h24, hf⟩ := gd_split hf
            refine TW.iast hs.k112 h24 dX12_worth_96 ?_
            show AW G mX12_worth (d + 1) 0 0 K 97 [some (.ref 89), some (.int p1), some (.int p2), some (.int i4), some (.int i5), none] [] ((u2 I3 112 (tn i4) j23), J, ρ)
            refine AW.iinc (v := (i4 + (1 : Int32))) (ls' := [some (.ref 89), some (.int p1), some (.int p2), some (.int (i4 + (1 : Int32))), some (.int i5), none]) dX12_worth_97 rfl rfl (Nat.le_of_ble_eq_true rfl) rfl ?_
            refine AW.goto (tgt := 194) dX12_worth_100 (by decide) ?_
            obtain rfl := Option.some.inj hf
            exact AW.weak _ (by exact (And.intro rfl (And.intro rfl (And.intro rfl (And.intro rfl (And.intro rfl trivial)))))) Kj25
          clear hf; have hf := gj23; clear gj23
          refine AW.icmp_ge (tgt := 91) dX12_worth_78 (by decide) (fun hc => ?_) (fun hc => ?_)
          · have hf := (if_pos hc).symm.trans hf
            refine AW.iload dX12_worth_91 rfl ?_
            refine AW.ldc dX12_worth_93 kcX12_200 ?_
            refine AW.isub dX12_worth_95 ?_
            obtain rfl := Option.some.inj hf
            exact AW.weak _ (by exact (And.intro rfl (And.intro rfl (And.intro rfl (And.intro rfl (And.intro rfl trivial)))))) Kj23
          · have hf := (if_neg hc).symm.trans hf
            refine AW.aload_n dX12_worth_81 rfl ?_
            refine TW.getR fX12_118_12 hs.k89 (rf_some hs.r89_47) dX12_worth_82 ?_
            refine AW.iload dX12_worth_85 rfl ?_
            obtain ⟨h22, hf⟩ := gd_split hf
            refine TW.iald (x := (I3 113 (tn x8))) hs.k113 h22 rfl dX12_worth_87 ?_
            refine AW.goto (tgt := 96) dX12_worth_88 (by decide) ?_
            obtain rfl := Option.some.inj hf
            exact AW.weak _ (by exact (And.intro rfl (And.intro rfl (And.intro rfl (And.intro rfl (And.intro rfl trivial)))))) Kj23
def f_X12_worth (N : Nat) (ρ : Rh) (I : Nat → Nat → Int32) (J : Nat → Nat → Int64) (p1 : Int32) (p2 : Int32) : Option ((Nat → Nat → Int32) × Int32) := (if ¬ ((((4 : Int32) * (I 89 18)) + p1) < 0 ∨ 24 ≤ tn (((4 : Int32) * (I 89 18)) + p1)) then (bnd (I 99 (tn (((4 : Int32) * (I 89 18)) + p1))) fun x2 => ((f_X12_worth_17 N J ρ p1 p2 N I (0 : Int32) x2).bind fun j26 => (if ((0 : Int32) ≤ (j26 112 0)) then (if ((j26 112 0) ≤ p2) then some (j26, (j26 112 0)) else some (j26, p2)) else some (j26, (0 : Int32))))) else none)
theorem c_X12_worth {G : Gd} {d N : Nat} {K : Ah → Option Value → Prop} {ρ : Rh} {I : Nat → Nat → Int32} {J : Nat → Nat → Int64} {p1 : Int32} {p2 : Int32} {o : (Nat → Nat → Int32) × Int32} (hs : Sh ρ) (hf : f_X12_worth N ρ I J p1 p2 = some o) (hK : K (o.1, J, ρ) (some (.int o.2))) : AM G (d + 1) 0 0 mX12_worth [.ref 89, .int p1, .int p2] (I, J, ρ) K := by
  unfold f_X12_worth at hf
  refine AM.intro okX12_worth.2.2.2.1 (Nat.le_of_ble_eq_true rfl) [some (.ref 89), some (.int p1), some (.int p2), none, none, none] rfl ?_
  refine AW.iconst (v := (0 : Int32)) dX12_worth_0 (by decide) ?_
  refine AW.istore_n (ls' := [some (.ref 89), some (.int p1), some (.int p2), some (.int (0 : Int32)), none, none]) dX12_worth_1 (Nat.le_of_ble_eq_true rfl) rfl ?_
  refine AW.aload_n dX12_worth_2 rfl ?_
  refine TW.getR fX12_50_12 hs.k89 (rf_some hs.r89_16) dX12_worth_3 ?_
  refine AW.iconst (v := (4 : Int32)) dX12_worth_6 (by decide) ?_
  refine AW.aload_n dX12_worth_7 rfl ?_
  refine TW.getI (x := (I 89 18)) fX12_148_12 hs.k89 rfl dX12_worth_8 ?_
  refine AW.imul dX12_worth_11 ?_
  refine AW.iload_n dX12_worth_12 rfl ?_
  refine AW.iadd dX12_worth_13 ?_
  obtain ⟨h1, hf⟩ := gd_split hf
  refine TW.iald (x := (I 99 (tn (((4 : Int32) * (I 89 18)) + p1)))) hs.k99 h1 rfl dX12_worth_14 ?_
  obtain ⟨x2, gx2, hf⟩ := bnd_one hf
  refine AW.nmI gx2 ?_
  refine AW.istore (ls' := [some (.ref 89), some (.int p1), some (.int p2), some (.int (0 : Int32)), some (.int x2), none]) dX12_worth_15 (Nat.le_of_ble_eq_true rfl) rfl ?_
  obtain ⟨j26, gj26, hf⟩ := ob_split hf
  refine AW.weak _ (by exact (And.intro rfl (And.intro rfl (And.intro rfl (And.intro rfl (And.intro rfl trivial)))))) (l_X12_worth_17 hs N I (0 : Int32) x2 gj26 ?_)
  show AW G mX12_worth (d + 1) 0 0 K 200 [some (.ref 89), none, some (.int p2), none, none, none] [] (j26, J, ρ)
  refine AW.aload_n dX12_worth_200 rfl ?_
  refine TW.getR fX12_115_12 hs.k89 (rf_some hs.r89_46) dX12_worth_201 ?_
  refine AW.iconst (v := (0 : Int32)) dX12_worth_204 (by decide) ?_
  refine TW.iald (x := (j26 112 0)) hs.k112 (show ¬ ((0 : Int32) < 0 ∨ 200 ≤ (0 : Int32).toNatClampNeg) by decide) rfl dX12_worth_205 ?_
  refine AW.if_ge (tgt := 213) dX12_worth_206 (by decide) (fun hc => ?_) (fun hc => ?_)
  · have hf := (if_pos hc).symm.trans hf
    refine AW.aload_n dX12_worth_213 rfl ?_
    refine TW.getR fX12_115_12 hs.k89 (rf_some hs.r89_46) dX12_worth_214 ?_
    refine AW.iconst (v := (0 : Int32)) dX12_worth_217 (by decide) ?_
    refine TW.iald (x := (j26 112 0)) hs.k112 (show ¬ ((0 : Int32) < 0 ∨ 200 ≤ (0 : Int32).toNatClampNeg) by decide) rfl dX12_worth_218 ?_
    refine AW.iload_n dX12_worth_219 rfl ?_
    refine AW.icmp_le (tgt := 227) dX12_worth_220 (by decide) (fun hc => ?_) (fun hc => ?_)
    · have hf := (if_pos hc).symm.trans hf
      refine AW.aload_n dX12_worth_227 rfl ?_
      refine TW.getR fX12_115_12 hs.k89 (rf_some hs.r89_46) dX12_worth_228 ?_
      refine AW.iconst (v := (0 : Int32)) dX12_worth_231 (by decide) ?_
      refine TW.iald (x := (j26 112 0)) hs.k112 (show ¬ ((0 : Int32) < 0 ∨ 200 ≤ (0 : Int32).toNatClampNeg) by decide) rfl dX12_worth_232 ?_
      obtain rfl := Option.some.inj hf
      exact AW.iret (st := []) dX12_worth_233 rfl hK
    · have hf := (if_neg hc).symm.trans hf
      refine AW.iload_n dX12_worth_223 rfl ?_
      refine AW.goto (tgt := 233) dX12_worth_224 (by decide) ?_
      obtain rfl := Option.some.inj hf
      exact AW.iret (st := []) dX12_worth_233 rfl hK
  · have hf := (if_neg hc).symm.trans hf
    refine AW.iconst (v := (0 : Int32)) dX12_worth_209 (by decide) ?_
    refine AW.goto (tgt := 233) dX12_worth_210 (by decide) ?_
    obtain rfl := Option.some.inj hf
    exact AW.iret (st := []) dX12_worth_233 rfl hK
def f_X12_force (N : Nat) (ρ : Rh) (I : Nat → Nat → Int32) (J : Nat → Nat → Int64) (p1 : Int32) : Option ((Nat → Nat → Int32) × Int32) := (Option.bind (f_X12_in N ρ I J p1 (0 : Int32) ((I 89 17) - (1 : Int32))) fun v1 => (if (v1 = (0 : Int32)) then some (I, (-2 : Int32)) else some ((u2 I 89 18 p1), (I 89 18))))
theorem c_X12_force {G : Gd} {d N : Nat} {K : Ah → Option Value → Prop} {ρ : Rh} {I : Nat → Nat → Int32} {J : Nat → Nat → Int64} {p1 : Int32} {o : (Nat → Nat → Int32) × Int32} (hs : Sh ρ) (hf : f_X12_force N ρ I J p1 = some o) (hK : K (o.1, J, ρ) (some (.int o.2))) : AM G (d + 1) 0 0 mX12_force [.ref 89, .int p1] (I, J, ρ) K := by
  unfold f_X12_force at hf
  refine AM.intro okX12_force.2.2.2.1 (Nat.le_of_ble_eq_true rfl) [some (.ref 89), some (.int p1), none] rfl ?_
  refine AW.iload_n dX12_force_0 rfl ?_
  refine AW.iconst (v := (0 : Int32)) dX12_force_1 (by decide) ?_
  refine AW.aload_n dX12_force_2 rfl ?_
  refine TW.getI (x := (I 89 17)) fX12_53_12 hs.k89 rfl dX12_force_3 ?_
  refine AW.iconst (v := (1 : Int32)) dX12_force_6 (by decide) ?_
  refine AW.isub dX12_force_7 ?_
  obtain ⟨v1, gv1, hf⟩ := ob_split hf
  refine TW.invs (as := [.int p1, .int (0 : Int32), .int ((I 89 17) - (1 : Int32))]) (rest := []) stX12_133 dX12_force_8 rfl rfl (Nat.le_of_ble_eq_true rfl) (c_X12_in hs gv1 ?_)
  show AW G mX12_force (d + 1) 0 0 K 11 [some (.ref 89), some (.int p1), none] [.int v1] (I, J, ρ)
  refine AW.if_ne (tgt := 17) dX12_force_11 (by decide) (fun hc => ?_) (fun hc => ?_)
  · have hf := (if_neg hc).symm.trans hf
    refine AW.aload_n dX12_force_17 rfl ?_
    refine TW.getI (x := (I 89 18)) fX12_148_12 hs.k89 rfl dX12_force_18 ?_
    refine AW.istore_n (ls' := [some (.ref 89), some (.int p1), some (.int (I 89 18))]) dX12_force_21 (Nat.le_of_ble_eq_true rfl) rfl ?_
    refine AW.aload_n dX12_force_22 rfl ?_
    refine AW.iload_n dX12_force_23 rfl ?_
    refine TW.putI fX12_148_12 hs.k89 (Or.inl rfl) dX12_force_24 ?_
    show AW G mX12_force (d + 1) 0 0 K 27 [some (.ref 89), some (.int p1), some (.int (I 89 18))] [] ((u2 I 89 18 p1), J, ρ)
    refine AW.iload_n dX12_force_27 rfl ?_
    obtain rfl := Option.some.inj hf
    exact AW.iret (st := []) dX12_force_28 rfl hK
  · have hf := (if_pos hc).symm.trans hf
    refine AW.bipush (v := (-2 : Int32)) dX12_force_14 (by decide) ?_
    obtain rfl := Option.some.inj hf
    exact AW.iret (st := []) dX12_force_16 rfl hK
def f_X12_low (N : Nat) (ρ : Rh) (I : Nat → Nat → Int32) (J : Nat → Nat → Int64) (p1 : Int32) : Option (Int32) := (if ((0 : Int32) ≤ p1) then some p1 else some (0 : Int32))
theorem c_X12_low {G : Gd} {d N : Nat} {K : Ah → Option Value → Prop} {ρ : Rh} {I : Nat → Nat → Int32} {J : Nat → Nat → Int64} {p1 : Int32} {o : Int32} (hs : Sh ρ) (hf : f_X12_low N ρ I J p1 = some o) (hK : K (I, J, ρ) (some (.int o))) : AM G d 0 0 mX12_low [.int p1] (I, J, ρ) K := by
  unfold f_X12_low at hf
  refine AM.intro okX12_low.2.2.2.1 (Nat.le_of_ble_eq_true rfl) [some (.int p1)] rfl ?_
  refine AW.iload_n dX12_low_0 rfl ?_
  refine AW.if_ge (tgt := 8) dX12_low_1 (by decide) (fun hc => ?_) (fun hc => ?_)
  · have hf := (if_pos hc).symm.trans hf
    refine AW.iload_n dX12_low_8 rfl ?_
    obtain rfl := Option.some.inj hf
    exact AW.iret (st := []) dX12_low_9 rfl hK
  · have hf := (if_neg hc).symm.trans hf
    refine AW.iconst (v := (0 : Int32)) dX12_low_4 (by decide) ?_
    refine AW.goto (tgt := 9) dX12_low_5 (by decide) ?_
    obtain rfl := Option.some.inj hf
    exact AW.iret (st := []) dX12_low_9 rfl hK
def f_X12_share (N : Nat) (ρ : Rh) (I : Nat → Nat → Int32) (J : Nat → Nat → Int64) (p1 : Int32) (p2 : Int32) (p3 : Int32) (p4 : Int32) (p5 : Int32) : Option (Int32) := (if ¬ p5 = 0 then (if ¬ (p2 < 0 ∨ 8 ≤ tn p2) then (((if ((I 91 (tn p2)) ≤ (0 : Int32)) then some (-1 : Int32) else some (1 : Int32)) : Option (Int32)).bind fun j3 => (Option.bind (f_X12_low N ρ I J (((I 89 5) / p5) + j3)) fun v4 => (if ¬ ((((8 : Int32) * p3) + p2) < 0 ∨ 104 ≤ tn (((8 : Int32) * p3) + p2)) then (if ¬ (p1 < 0 ∨ 8 ≤ tn p1) then (((if ((I 95 (tn p1)) ≤ (I 100 (tn (((8 : Int32) * p3) + p2)))) then some (-1 : Int32) else some (2 : Int32)) : Option (Int32)).bind fun j7 => (Option.bind (f_X12_low N ρ I J (((I 89 5) / p5) + j7)) fun v8 => (if ¬ (p1 < 0 ∨ 8 ≤ tn p1) then (if (I 94 (tn p1)) = (1 : Int32) then some v4 else (if (I 94 (tn p1)) = (2 : Int32) then some v8 else (if (I 94 (tn p1)) = (3 : Int32) then (if ¬ (p1 < 0 ∨ 8 ≤ tn p1) then (if ¬ p5 = 0 then (if (p4 = ((((7 : Int32) * p3) + (I 95 (tn p1))) - (((7 : Int32) * p3) + (I 95 (tn p1))) / p5 * p5)) then some ((2 : Int32) * v8) else some v8) else none) else none) else (if (I 94 (tn p1)) = (4 : Int32) then (if ¬ ((((8 : Int32) * p1) + p2) < 0 ∨ 64 ≤ tn (((8 : Int32) * p1) + p2)) then some (I 96 (tn (((8 : Int32) * p1) + p2))) else none) else (if (I 94 (tn p1)) = (5 : Int32) then (if ¬ (p1 < 0 ∨ 8 ≤ tn p1) then (if (p3 < (I 95 (tn p1))) then some v4 else some (v4 / (2 : Int32))) else none) else some ((I 89 5) / p5)))))) else none))) else none) else none))) else none) else none)
theorem c_X12_share {G : Gd} {d N : Nat} {K : Ah → Option Value → Prop} {ρ : Rh} {I : Nat → Nat → Int32} {J : Nat → Nat → Int64} {p1 : Int32} {p2 : Int32} {p3 : Int32} {p4 : Int32} {p5 : Int32} {o : Int32} (hs : Sh ρ) (hf : f_X12_share N ρ I J p1 p2 p3 p4 p5 = some o) (hK : K (I, J, ρ) (some (.int o))) : AM G (d + 1) 0 0 mX12_share [.ref 89, .int p1, .int p2, .int p3, .int p4, .int p5] (I, J, ρ) K := by
  unfold f_X12_share at hf
  refine AM.intro okX12_share.2.2.2.1 (Nat.le_of_ble_eq_true rfl) [some (.ref 89), some (.int p1), some (.int p2), some (.int p3), some (.int p4), some (.int p5), none, none, none] rfl ?_
  refine AW.aload_n dX12_share_0 rfl ?_
  refine TW.getI (x := (I 89 5)) fX12_23_12 hs.k89 rfl dX12_share_1 ?_
  refine AW.iload dX12_share_4 rfl ?_
  obtain ⟨h1, hf⟩ := gd_split hf
  refine AW.idiv (hne := h1) dX12_share_6 ?_
  refine AW.istore (ls' := [some (.ref 89), some (.int p1), some (.int p2), some (.int p3), some (.int p4), some (.int p5), some (.int ((I 89 5) / p5)), none, none]) dX12_share_7 (Nat.le_of_ble_eq_true rfl) rfl ?_
  refine AW.iload dX12_share_9 rfl ?_
  refine AW.aload_n dX12_share_11 rfl ?_
  refine TW.getR fX12_13_12 hs.k89 (rf_some hs.r89_2) dX12_share_12 ?_
  refine AW.iload_n dX12_share_15 rfl ?_
  obtain ⟨h2, hf⟩ := gd_split hf
  refine TW.iald (x := (I 91 (tn p2))) hs.k91 h2 rfl dX12_share_16 ?_
  obtain ⟨j3, gj3, hf⟩ := ob_split hf
  have Kj3 : AW G mX12_share (d + 1) 0 0 K 25 [some (.ref 89), some (.int p1), some (.int p2), some (.int p3), some (.int p4), some (.int p5), some (.int ((I 89 5) / p5)), none, none] [.int j3, .int ((I 89 5) / p5)] (I, J, ρ) := by
    refine AW.iadd dX12_share_25 ?_
    obtain ⟨v4, gv4, hf⟩ := ob_split hf
    refine TW.invs (as := [.int (((I 89 5) / p5) + j3)]) (rest := []) stX12_219 dX12_share_26 rfl rfl (Nat.le_of_ble_eq_true rfl) (c_X12_low hs gv4 ?_)
    show AW G mX12_share (d + 1) 0 0 K 29 [some (.ref 89), some (.int p1), some (.int p2), some (.int p3), some (.int p4), some (.int p5), some (.int ((I 89 5) / p5)), none, none] [.int v4] (I, J, ρ)
    refine AW.istore (ls' := [some (.ref 89), some (.int p1), some (.int p2), some (.int p3), some (.int p4), some (.int p5), some (.int ((I 89 5) / p5)), some (.int v4), none]) dX12_share_29 (Nat.le_of_ble_eq_true rfl) rfl ?_
    refine AW.iload dX12_share_31 rfl ?_
    refine AW.aload_n dX12_share_33 rfl ?_
    refine TW.getR fX12_56_12 hs.k89 (rf_some hs.r89_19) dX12_share_34 ?_
    refine AW.bipush (v := (8 : Int32)) dX12_share_37 (by decide) ?_
    refine AW.iload_n dX12_share_39 rfl ?_
    refine AW.imul dX12_share_40 ?_
    refine AW.iload_n dX12_share_41 rfl ?_
    refine AW.iadd dX12_share_42 ?_
    obtain ⟨h5, hf⟩ := gd_split hf
    refine TW.iald (x := (I 100 (tn (((8 : Int32) * p3) + p2)))) hs.k100 h5 rfl dX12_share_43 ?_
    refine AW.aload_n dX12_share_44 rfl ?_
    refine TW.getR fX12_38_12 hs.k89 (rf_some hs.r89_11) dX12_share_45 ?_
    refine AW.iload_n dX12_share_48 rfl ?_
    obtain ⟨h6, hf⟩ := gd_split hf
    refine TW.iald (x := (I 95 (tn p1))) hs.k95 h6 rfl dX12_share_49 ?_
    obtain ⟨j7, gj7, hf⟩ := ob_split hf
    have Kj7 : AW G mX12_share (d + 1) 0 0 K 58 [some (.ref 89), some (.int p1), some (.int p2), some (.int p3), some (.int p4), some (.int p5), some (.int ((I 89 5) / p5)), some (.int v4), none] [.int j7, .int ((I 89 5) / p5)] (I, J, ρ) := by
      refine AW.iadd dX12_share_58 ?_
      obtain ⟨v8, gv8, hf⟩ := ob_split hf
      refine TW.invs (as := [.int (((I 89 5) / p5) + j7)]) (rest := []) stX12_219 dX12_share_59 rfl rfl (Nat.le_of_ble_eq_true rfl) (c_X12_low hs gv8 ?_)
      show AW G mX12_share (d + 1) 0 0 K 62 [some (.ref 89), some (.int p1), some (.int p2), some (.int p3), some (.int p4), some (.int p5), some (.int ((I 89 5) / p5)), some (.int v4), none] [.int v8] (I, J, ρ)
      refine AW.istore (ls' := [some (.ref 89), some (.int p1), some (.int p2), some (.int p3), some (.int p4), some (.int p5), some (.int ((I 89 5) / p5)), some (.int v4), some (.int v8)]) dX12_share_62 (Nat.le_of_ble_eq_true rfl) rfl ?_
      refine AW.aload_n dX12_share_64 rfl ?_
      refine TW.getR fX12_35_12 hs.k89 (rf_some hs.r89_10) dX12_share_65 ?_
      refine AW.iload_n dX12_share_68 rfl ?_
      obtain ⟨h9, hf⟩ := gd_split hf
      refine TW.iald (x := (I 94 (tn p1))) hs.k94 h9 rfl dX12_share_69 ?_
      by_cases hc1 : (I 94 (tn p1)) = (1 : Int32)
      · have hf := (if_pos hc1).symm.trans hf
        refine AW.swIn (tgt := 104) dX12_share_70 (by rw [hc1]; decide) (by rw [hc1]; decide) (by rw [hc1]; rfl) (by decide) ?_
        refine AW.iload dX12_share_104 rfl ?_
        obtain rfl := Option.some.inj hf
        exact AW.iret (st := []) dX12_share_106 rfl hK
      have hf := (if_neg hc1).symm.trans hf
      by_cases hc2 : (I 94 (tn p1)) = (2 : Int32)
      · have hf := (if_pos hc2).symm.trans hf
        refine AW.swIn (tgt := 107) dX12_share_70 (by rw [hc2]; decide) (by rw [hc2]; decide) (by rw [hc2]; rfl) (by decide) ?_
        refine AW.iload dX12_share_107 rfl ?_
        obtain rfl := Option.some.inj hf
        exact AW.iret (st := []) dX12_share_109 rfl hK
      have hf := (if_neg hc2).symm.trans hf
      by_cases hc3 : (I 94 (tn p1)) = (3 : Int32)
      · have hf := (if_pos hc3).symm.trans hf
        refine AW.swIn (tgt := 110) dX12_share_70 (by rw [hc3]; decide) (by rw [hc3]; decide) (by rw [hc3]; rfl) (by decide) ?_
        refine AW.iload dX12_share_110 rfl ?_
        refine AW.bipush (v := (7 : Int32)) dX12_share_112 (by decide) ?_
        refine AW.iload_n dX12_share_114 rfl ?_
        refine AW.imul dX12_share_115 ?_
        refine AW.aload_n dX12_share_116 rfl ?_
        refine TW.getR fX12_38_12 hs.k89 (rf_some hs.r89_11) dX12_share_117 ?_
        refine AW.iload_n dX12_share_120 rfl ?_
        obtain ⟨h10, hf⟩ := gd_split hf
        refine TW.iald (x := (I 95 (tn p1))) hs.k95 h10 rfl dX12_share_121 ?_
        refine AW.iadd dX12_share_122 ?_
        refine AW.iload dX12_share_123 rfl ?_
        obtain ⟨h11, hf⟩ := gd_split hf
        refine AW.irem (hne := h11) dX12_share_125 ?_
        refine AW.icmp_ne (tgt := 136) dX12_share_126 (by decide) (fun hc => ?_) (fun hc => ?_)
        · have hf := (if_neg hc).symm.trans hf
          refine AW.iload dX12_share_136 rfl ?_
          obtain rfl := Option.some.inj hf
          exact AW.iret (st := []) dX12_share_138 rfl hK
        · have hf := (if_pos hc).symm.trans hf
          refine AW.iconst (v := (2 : Int32)) dX12_share_129 (by decide) ?_
          refine AW.iload dX12_share_130 rfl ?_
          refine AW.imul dX12_share_132 ?_
          refine AW.goto (tgt := 138) dX12_share_133 (by decide) ?_
          obtain rfl := Option.some.inj hf
          exact AW.iret (st := []) dX12_share_138 rfl hK
      have hf := (if_neg hc3).symm.trans hf
      by_cases hc4 : (I 94 (tn p1)) = (4 : Int32)
      · have hf := (if_pos hc4).symm.trans hf
        refine AW.swIn (tgt := 139) dX12_share_70 (by rw [hc4]; decide) (by rw [hc4]; decide) (by rw [hc4]; rfl) (by decide) ?_
        refine AW.aload_n dX12_share_139 rfl ?_
        refine TW.getR fX12_41_12 hs.k89 (rf_some hs.r89_12) dX12_share_140 ?_
        refine AW.bipush (v := (8 : Int32)) dX12_share_143 (by decide) ?_
        refine AW.iload_n dX12_share_145 rfl ?_
        refine AW.imul dX12_share_146 ?_
        refine AW.iload_n dX12_share_147 rfl ?_
        refine AW.iadd dX12_share_148 ?_
        obtain ⟨h12, hf⟩ := gd_split hf
        refine TW.iald (x := (I 96 (tn (((8 : Int32) * p1) + p2)))) hs.k96 h12 rfl dX12_share_149 ?_
        obtain rfl := Option.some.inj hf
        exact AW.iret (st := []) dX12_share_150 rfl hK
      have hf := (if_neg hc4).symm.trans hf
      by_cases hc5 : (I 94 (tn p1)) = (5 : Int32)
      · have hf := (if_pos hc5).symm.trans hf
        refine AW.swIn (tgt := 151) dX12_share_70 (by rw [hc5]; decide) (by rw [hc5]; decide) (by rw [hc5]; rfl) (by decide) ?_
        refine AW.iload_n dX12_share_151 rfl ?_
        refine AW.aload_n dX12_share_152 rfl ?_
        refine TW.getR fX12_38_12 hs.k89 (rf_some hs.r89_11) dX12_share_153 ?_
        refine AW.iload_n dX12_share_156 rfl ?_
        obtain ⟨h13, hf⟩ := gd_split hf
        refine TW.iald (x := (I 95 (tn p1))) hs.k95 h13 rfl dX12_share_157 ?_
        refine AW.icmp_lt (tgt := 168) dX12_share_158 (by decide) (fun hc => ?_) (fun hc => ?_)
        · have hf := (if_pos hc).symm.trans hf
          refine AW.iload dX12_share_168 rfl ?_
          obtain rfl := Option.some.inj hf
          exact AW.iret (st := []) dX12_share_170 rfl hK
        · have hf := (if_neg hc).symm.trans hf
          refine AW.iload dX12_share_161 rfl ?_
          refine AW.iconst (v := (2 : Int32)) dX12_share_163 (by decide) ?_
          refine AW.idiv (hne := (by decide)) dX12_share_164 ?_
          refine AW.goto (tgt := 170) dX12_share_165 (by decide) ?_
          obtain rfl := Option.some.inj hf
          exact AW.iret (st := []) dX12_share_170 rfl hK
      have hf := (if_neg hc5).symm.trans hf
      have KD : AW G mX12_share (d + 1) 0 0 K 171 [some (.ref 89), some (.int p1), some (.int p2), some (.int p3), some (.int p4), some (.int p5), some (.int ((I 89 5) / p5)), some (.int v4), some (.int v8)] [] (I, J, ρ) := by
        refine AW.iload dX12_share_171 rfl ?_
        obtain rfl := Option.some.inj hf
        exact AW.iret (st := []) dX12_share_173 rfl hK
      have hc1 : ¬ ((I 94 (tn p1))).toInt = 1 := fun q => hc1 (Int32.toInt_inj.mp q)
      have hc2 : ¬ ((I 94 (tn p1))).toInt = 2 := fun q => hc2 (Int32.toInt_inj.mp q)
      have hc3 : ¬ ((I 94 (tn p1))).toInt = 3 := fun q => hc3 (Int32.toInt_inj.mp q)
      have hc4 : ¬ ((I 94 (tn p1))).toInt = 4 := fun q => hc4 (Int32.toInt_inj.mp q)
      have hc5 : ¬ ((I 94 (tn p1))).toInt = 5 := fun q => hc5 (Int32.toInt_inj.mp q)
      exact AW.swOut dX12_share_70 (by omega) (by decide) KD
    clear hf; have hf := gj7; clear gj7
    refine AW.icmp_ge (tgt := 57) dX12_share_50 (by decide) (fun hc => ?_) (fun hc => ?_)
    · have hf := (if_pos hc).symm.trans hf
      refine AW.iconst (v := (-1 : Int32)) dX12_share_57 (by decide) ?_
      obtain rfl := Option.some.inj hf
      exact AW.weak _ (by exact (And.intro rfl (And.intro rfl (And.intro rfl (And.intro rfl (And.intro rfl (And.intro rfl (And.intro rfl (And.intro rfl trivial))))))))) Kj7
    · have hf := (if_neg hc).symm.trans hf
      refine AW.iconst (v := (2 : Int32)) dX12_share_53 (by decide) ?_
      refine AW.goto (tgt := 58) dX12_share_54 (by decide) ?_
      obtain rfl := Option.some.inj hf
      exact AW.weak _ (by exact (And.intro rfl (And.intro rfl (And.intro rfl (And.intro rfl (And.intro rfl (And.intro rfl (And.intro rfl (And.intro rfl trivial))))))))) Kj7
  clear hf; have hf := gj3; clear gj3
  refine AW.if_le (tgt := 24) dX12_share_17 (by decide) (fun hc => ?_) (fun hc => ?_)
  · have hf := (if_pos hc).symm.trans hf
    refine AW.iconst (v := (-1 : Int32)) dX12_share_24 (by decide) ?_
    obtain rfl := Option.some.inj hf
    exact AW.weak _ (by exact (And.intro rfl (And.intro rfl (And.intro rfl (And.intro rfl (And.intro rfl (And.intro rfl (And.intro rfl trivial)))))))) Kj3
  · have hf := (if_neg hc).symm.trans hf
    refine AW.iconst (v := (1 : Int32)) dX12_share_20 (by decide) ?_
    refine AW.goto (tgt := 25) dX12_share_21 (by decide) ?_
    obtain rfl := Option.some.inj hf
    exact AW.weak _ (by exact (And.intro rfl (And.intro rfl (And.intro rfl (And.intro rfl (And.intro rfl (And.intro rfl (And.intro rfl trivial)))))))) Kj3
