/-! ===== methods 14.model 9 ===== -/
def f_X12_men_64 (N : Nat) (J : Nat → Nat → Int64) (ρ : Rh) (p1 : Int32) (p3 : Int32) (p4 : Int32) : Nat → (Nat → Nat → Int32) → Int32 → Int32 → Option (((Nat → Nat → Int32) × Int32) ⊕ ((Nat → Nat → Int32) × Int32))
  | 0, _, _, _ => none
  | n + 1, I6, i7, i8 => (if (p4 ≤ i8) then some (Sum.inr (I6, i7)) else (if (p3 < (0 : Int32)) then some (Sum.inl (I6, (-12 : Int32))) else (if ((p3 + ((2 : Int32) * i8)) < p3) then some (Sum.inl (I6, (-12 : Int32))) else (if ¬ (p1 < 0 ∨ 4 ≤ tn p1) then (if ((p3 + ((2 : Int32) * i8)) ≤ ((I6 108 (tn p1)) - (2 : Int32))) then (bnd (((40 : Int32) * p1) + (p3 + ((2 : Int32) * i8))) fun x10 => (if ¬ (x10 < 0 ∨ 160 ≤ tn x10) then (if ¬ ((x10 + (1 : Int32)) < 0 ∨ 160 ≤ tn (x10 + (1 : Int32))) then (Option.bind (f_X12_man N ρ I6 J (I6 109 (tn x10)) (I6 109 (tn (x10 + (1 : Int32))))) fun v13 => (((if (v13.2 < (0 : Int32)) then some (0 : Int32) else some (1 : Int32)) : Option (Int32)).bind fun j14 => f_X12_men_64 N J ρ p1 p3 p4 n v13.1 (i7 + j14) (i8 + (1 : Int32)))) else none) else none)) else some (Sum.inl (I6, (-12 : Int32)))) else none))))
theorem l_X12_men_64 {G : Gd} {d N : Nat} {K : Ah → Option Value → Prop} {J : Nat → Nat → Int64} {ρ : Rh} {p1 : Int32} {p3 : Int32} {p4 : Int32} (hs : Sh ρ) {o : ((Nat → Nat → Int32) × Int32) ⊕ ((Nat → Nat → Int32) × Int32)} : ∀ (n : Nat) (I6 : Nat → Nat → Int32) (i7 : Int32) (i8 : Int32), f_X12_men_64 N J ρ p1 p3 p4 n I6 i7 i8 = some o → scase o (fun r => K (r.1, J, ρ) (some (.int r.2))) (fun o => AW G mX12_men (d + 2) 0 0 K 153 [none, none, none, none, none, some (.int o.2), none, none, none] [] (o.1, J, ρ)) → AW G mX12_men (d + 2) 0 0 K 64 [some (.ref 89), some (.int p1), none, some (.int p3), some (.int p4), some (.int i7), some (.int i8), none, none] [] (I6, J, ρ) := by
  intro n
  induction n with
  | zero => intro I6 i7 i8 hf hE; rw [f_X12_men_64.eq_1] at hf; cases hf
  | succ n ih =>
    intro I6 i7 i8 hf hE
    rw [f_X12_men_64.eq_2] at hf
    refine AW.iload dX12_men_64 rfl ?_
    refine AW.iload dX12_men_66 rfl ?_
    refine AW.icmp_ge (tgt := 153) dX12_men_68 (by decide) (fun hc => ?_) (fun hc => ?_)
    · have hf := (if_pos hc).symm.trans hf
      obtain rfl := Option.some.inj hf
      exact AW.weak _ (by exact (And.intro rfl trivial)) hE
    · have hf := (if_neg hc).symm.trans hf
      refine AW.iload_n dX12_men_71 rfl ?_
      refine AW.iconst (v := (2 : Int32)) dX12_men_72 (by decide) ?_
      refine AW.iload dX12_men_73 rfl ?_
      refine AW.imul dX12_men_75 ?_
      refine AW.iadd dX12_men_76 ?_
      refine AW.istore (ls' := [some (.ref 89), some (.int p1), none, some (.int p3), some (.int p4), some (.int i7), some (.int i8), some (.int (p3 + ((2 : Int32) * i8))), none]) dX12_men_77 (Nat.le_of_ble_eq_true rfl) rfl ?_
      refine AW.iload_n dX12_men_79 rfl ?_
      refine AW.if_lt (tgt := 102) dX12_men_80 (by decide) (fun hc => ?_) (fun hc => ?_)
      · have hf := (if_pos hc).symm.trans hf
        refine AW.bipush (v := (-12 : Int32)) dX12_men_102 (by decide) ?_
        obtain rfl := Option.some.inj hf
        exact AW.iret (st := []) dX12_men_104 rfl hE
      · have hf := (if_neg hc).symm.trans hf
        refine AW.iload dX12_men_83 rfl ?_
        refine AW.iload_n dX12_men_85 rfl ?_
        refine AW.icmp_lt (tgt := 102) dX12_men_86 (by decide) (fun hc => ?_) (fun hc => ?_)
        · have hf := (if_pos hc).symm.trans hf
          refine AW.bipush (v := (-12 : Int32)) dX12_men_102 (by decide) ?_
          obtain rfl := Option.some.inj hf
          exact AW.iret (st := []) dX12_men_104 rfl hE
        · have hf := (if_neg hc).symm.trans hf
          refine AW.iload dX12_men_89 rfl ?_
          refine AW.aload_n dX12_men_91 rfl ?_
          refine TW.getR fX12_80_12 hs.k89 (rf_some hs.r89_35) dX12_men_92 ?_
          refine AW.iload_n dX12_men_95 rfl ?_
          obtain ⟨h9, hf⟩ := gd_split hf
          refine TW.iald (x := (I6 108 (tn p1))) hs.k108 h9 rfl dX12_men_96 ?_
          refine AW.iconst (v := (2 : Int32)) dX12_men_97 (by decide) ?_
          refine AW.isub dX12_men_98 ?_
          refine AW.icmp_le (tgt := 105) dX12_men_99 (by decide) (fun hc => ?_) (fun hc => ?_)
          · have hf := (if_pos hc).symm.trans hf
            refine AW.bipush (v := (40 : Int32)) dX12_men_105 (by decide) ?_
            refine AW.iload_n dX12_men_107 rfl ?_
            refine AW.imul dX12_men_108 ?_
            refine AW.iload dX12_men_109 rfl ?_
            refine AW.iadd dX12_men_111 ?_
            obtain ⟨x10, gx10, hf⟩ := bnd_one hf
            refine AW.nmI gx10 ?_
            refine AW.istore (ls' := [some (.ref 89), some (.int p1), none, some (.int p3), some (.int p4), some (.int i7), some (.int i8), some (.int (p3 + ((2 : Int32) * i8))), some (.int x10)]) dX12_men_112 (Nat.le_of_ble_eq_true rfl) rfl ?_
            refine AW.iload dX12_men_114 rfl ?_
            refine AW.aload_n dX12_men_116 rfl ?_
            refine AW.aload_n dX12_men_117 rfl ?_
            refine TW.getR fX12_83_12 hs.k89 (rf_some hs.r89_36) dX12_men_118 ?_
            refine AW.iload dX12_men_121 rfl ?_
            obtain ⟨h11, hf⟩ := gd_split hf
            refine TW.iald (x := (I6 109 (tn x10))) hs.k109 h11 rfl dX12_men_123 ?_
            refine AW.aload_n dX12_men_124 rfl ?_
            refine TW.getR fX12_83_12 hs.k89 (rf_some hs.r89_36) dX12_men_125 ?_
            refine AW.iload dX12_men_128 rfl ?_
            refine AW.iconst (v := (1 : Int32)) dX12_men_130 (by decide) ?_
            refine AW.iadd dX12_men_131 ?_
            obtain ⟨h12, hf⟩ := gd_split hf
            refine TW.iald (x := (I6 109 (tn (x10 + (1 : Int32))))) hs.k109 h12 rfl dX12_men_132 ?_
            obtain ⟨v13, gv13, hf⟩ := ob_split hf
            refine TW.invv (as := [.int (I6 109 (tn x10)), .int (I6 109 (tn (x10 + (1 : Int32))))]) (rest := [.int i7]) viX12_300_12 hs.k89 dX12_men_133 rfl rfl (Nat.le_of_ble_eq_true rfl) (c_X12_man hs gv13 ?_)
            show AW G mX12_men (d + 2) 0 0 K 136 [some (.ref 89), some (.int p1), none, some (.int p3), some (.int p4), some (.int i7), some (.int i8), some (.int (p3 + ((2 : Int32) * i8))), some (.int x10)] [.int v13.2, .int i7] (v13.1, J, ρ)
            obtain ⟨j14, gj14, hf⟩ := ob_split hf
            have Kj14 : AW G mX12_men (d + 2) 0 0 K 144 [some (.ref 89), some (.int p1), none, some (.int p3), some (.int p4), none, some (.int i8), none, none] [.int j14, .int i7] (v13.1, J, ρ) := by
              refine AW.iadd dX12_men_144 ?_
              refine AW.istore (ls' := [some (.ref 89), some (.int p1), none, some (.int p3), some (.int p4), some (.int (i7 + j14)), some (.int i8), none, none]) dX12_men_145 (Nat.le_of_ble_eq_true rfl) rfl ?_
              refine AW.iinc (v := (i8 + (1 : Int32))) (ls' := [some (.ref 89), some (.int p1), none, some (.int p3), some (.int p4), some (.int (i7 + j14)), some (.int (i8 + (1 : Int32))), none, none]) dX12_men_147 rfl rfl (Nat.le_of_ble_eq_true rfl) rfl ?_
              refine AW.goto (tgt := 64) dX12_men_150 (by decide) ?_
              exact AW.weak _ (by exact (And.intro rfl (And.intro rfl (And.intro rfl (And.intro rfl (And.intro rfl (And.intro rfl trivial))))))) (ih v13.1 (i7 + j14) (i8 + (1 : Int32)) hf hE)
            clear hf; have hf := gj14; clear gj14
            refine AW.if_lt (tgt := 143) dX12_men_136 (by decide) (fun hc => ?_) (fun hc => ?_)
            · have hf := (if_pos hc).symm.trans hf
              refine AW.iconst (v := (0 : Int32)) dX12_men_143 (by decide) ?_
              obtain rfl := Option.some.inj hf
              exact AW.weak _ (by exact (And.intro rfl (And.intro rfl (And.intro rfl (And.intro rfl (And.intro rfl trivial)))))) Kj14
            · have hf := (if_neg hc).symm.trans hf
              refine AW.iconst (v := (1 : Int32)) dX12_men_139 (by decide) ?_
              refine AW.goto (tgt := 144) dX12_men_140 (by decide) ?_
              obtain rfl := Option.some.inj hf
              exact AW.weak _ (by exact (And.intro rfl (And.intro rfl (And.intro rfl (And.intro rfl (And.intro rfl trivial)))))) Kj14
          · have hf := (if_neg hc).symm.trans hf
            refine AW.bipush (v := (-12 : Int32)) dX12_men_102 (by decide) ?_
            obtain rfl := Option.some.inj hf
            exact AW.iret (st := []) dX12_men_104 rfl hE
def f_X12_men (N : Nat) (ρ : Rh) (I : Nat → Nat → Int32) (J : Nat → Nat → Int64) (p1 : Int32) (p2 : Int32) (p3 : Int32) (p4 : Int32) : Option ((Nat → Nat → Int32) × Int32) := (Option.bind (f_X12_in N ρ I J p1 (0 : Int32) (3 : Int32)) fun v1 => (if (v1 = (0 : Int32)) then some (I, (-2 : Int32)) else (Option.bind (f_X12_in N ρ I J p2 (0 : Int32) (2 : Int32)) fun v2 => (if (v2 = (0 : Int32)) then some (I, (-2 : Int32)) else (Option.bind (f_X12_in N ρ I J p4 (0 : Int32) (8 : Int32)) fun v3 => (if (v3 = (0 : Int32)) then some (I, (-2 : Int32)) else (if ¬ (p1 < 0 ∨ 4 ≤ tn p1) then (if ((I 107 (tn p1)) = (-1 : Int32)) then some (I, (-11 : Int32)) else (if ¬ (p1 < 0 ∨ 4 ≤ tn p1) then (if ((I 107 (tn p1)) = p2) then ((f_X12_men_64 N J ρ p1 p3 p4 N I (0 : Int32) (0 : Int32)).bind fun j15 => scase j15 (fun r => some r) (fun j15 => some (j15.1, j15.2))) else some (I, (-13 : Int32))) else none)) else none)))))))
theorem c_X12_men {G : Gd} {d N : Nat} {K : Ah → Option Value → Prop} {ρ : Rh} {I : Nat → Nat → Int32} {J : Nat → Nat → Int64} {p1 : Int32} {p2 : Int32} {p3 : Int32} {p4 : Int32} {o : (Nat → Nat → Int32) × Int32} (hs : Sh ρ) (hf : f_X12_men N ρ I J p1 p2 p3 p4 = some o) (hK : K (o.1, J, ρ) (some (.int o.2))) : AM G (d + 2) 0 0 mX12_men [.ref 89, .int p1, .int p2, .int p3, .int p4] (I, J, ρ) K := by
  unfold f_X12_men at hf
  refine AM.intro okX12_men.2.2.2.1 (Nat.le_of_ble_eq_true rfl) [some (.ref 89), some (.int p1), some (.int p2), some (.int p3), some (.int p4), none, none, none, none] rfl ?_
  refine AW.iload_n dX12_men_0 rfl ?_
  refine AW.iconst (v := (0 : Int32)) dX12_men_1 (by decide) ?_
  refine AW.iconst (v := (3 : Int32)) dX12_men_2 (by decide) ?_
  obtain ⟨v1, gv1, hf⟩ := ob_split hf
  refine TW.invs (as := [.int p1, .int (0 : Int32), .int (3 : Int32)]) (rest := []) stX12_133 dX12_men_3 rfl rfl (Nat.le_of_ble_eq_true rfl) (c_X12_in hs gv1 ?_)
  show AW G mX12_men (d + 2) 0 0 K 6 [some (.ref 89), some (.int p1), some (.int p2), some (.int p3), some (.int p4), none, none, none, none] [.int v1] (I, J, ρ)
  refine AW.if_eq (tgt := 29) dX12_men_6 (by decide) (fun hc => ?_) (fun hc => ?_)
  · have hf := (if_pos hc).symm.trans hf
    refine AW.bipush (v := (-2 : Int32)) dX12_men_29 (by decide) ?_
    obtain rfl := Option.some.inj hf
    exact AW.iret (st := []) dX12_men_31 rfl hK
  · have hf := (if_neg hc).symm.trans hf
    refine AW.iload_n dX12_men_9 rfl ?_
    refine AW.iconst (v := (0 : Int32)) dX12_men_10 (by decide) ?_
    refine AW.iconst (v := (2 : Int32)) dX12_men_11 (by decide) ?_
    obtain ⟨v2, gv2, hf⟩ := ob_split hf
    refine TW.invs (as := [.int p2, .int (0 : Int32), .int (2 : Int32)]) (rest := []) stX12_133 dX12_men_12 rfl rfl (Nat.le_of_ble_eq_true rfl) (c_X12_in hs gv2 ?_)
    show AW G mX12_men (d + 2) 0 0 K 15 [some (.ref 89), some (.int p1), some (.int p2), some (.int p3), some (.int p4), none, none, none, none] [.int v2] (I, J, ρ)
    refine AW.if_eq (tgt := 29) dX12_men_15 (by decide) (fun hc => ?_) (fun hc => ?_)
    · have hf := (if_pos hc).symm.trans hf
      refine AW.bipush (v := (-2 : Int32)) dX12_men_29 (by decide) ?_
      obtain rfl := Option.some.inj hf
      exact AW.iret (st := []) dX12_men_31 rfl hK
    · have hf := (if_neg hc).symm.trans hf
      refine AW.iload dX12_men_18 rfl ?_
      refine AW.iconst (v := (0 : Int32)) dX12_men_20 (by decide) ?_
      refine AW.bipush (v := (8 : Int32)) dX12_men_21 (by decide) ?_
      obtain ⟨v3, gv3, hf⟩ := ob_split hf
      refine TW.invs (as := [.int p4, .int (0 : Int32), .int (8 : Int32)]) (rest := []) stX12_133 dX12_men_23 rfl rfl (Nat.le_of_ble_eq_true rfl) (c_X12_in hs gv3 ?_)
      show AW G mX12_men (d + 2) 0 0 K 26 [some (.ref 89), some (.int p1), some (.int p2), some (.int p3), some (.int p4), none, none, none, none] [.int v3] (I, J, ρ)
      refine AW.if_ne (tgt := 32) dX12_men_26 (by decide) (fun hc => ?_) (fun hc => ?_)
      · have hf := (if_neg hc).symm.trans hf
        refine AW.aload_n dX12_men_32 rfl ?_
        refine TW.getR fX12_77_12 hs.k89 (rf_some hs.r89_34) dX12_men_33 ?_
        refine AW.iload_n dX12_men_36 rfl ?_
        obtain ⟨h4, hf⟩ := gd_split hf
        refine TW.iald (x := (I 107 (tn p1))) hs.k107 h4 rfl dX12_men_37 ?_
        refine AW.iconst (v := (-1 : Int32)) dX12_men_38 (by decide) ?_
        refine AW.icmp_ne (tgt := 45) dX12_men_39 (by decide) (fun hc => ?_) (fun hc => ?_)
        · have hf := (if_neg hc).symm.trans hf
          refine AW.aload_n dX12_men_45 rfl ?_
          refine TW.getR fX12_77_12 hs.k89 (rf_some hs.r89_34) dX12_men_46 ?_
          refine AW.iload_n dX12_men_49 rfl ?_
          obtain ⟨h5, hf⟩ := gd_split hf
          refine TW.iald (x := (I 107 (tn p1))) hs.k107 h5 rfl dX12_men_50 ?_
          refine AW.iload_n dX12_men_51 rfl ?_
          refine AW.icmp_eq (tgt := 58) dX12_men_52 (by decide) (fun hc => ?_) (fun hc => ?_)
          · have hf := (if_pos hc).symm.trans hf
            refine AW.iconst (v := (0 : Int32)) dX12_men_58 (by decide) ?_
            refine AW.istore (ls' := [some (.ref 89), some (.int p1), some (.int p2), some (.int p3), some (.int p4), some (.int (0 : Int32)), none, none, none]) dX12_men_59 (Nat.le_of_ble_eq_true rfl) rfl ?_
            refine AW.iconst (v := (0 : Int32)) dX12_men_61 (by decide) ?_
            refine AW.istore (ls' := [some (.ref 89), some (.int p1), some (.int p2), some (.int p3), some (.int p4), some (.int (0 : Int32)), some (.int (0 : Int32)), none, none]) dX12_men_62 (Nat.le_of_ble_eq_true rfl) rfl ?_
            obtain ⟨j15, gj15, hf⟩ := ob_split hf
            refine AW.weak _ (by exact (And.intro rfl (And.intro rfl (And.intro rfl (And.intro rfl (And.intro rfl (And.intro rfl trivial))))))) (l_X12_men_64 hs N I (0 : Int32) (0 : Int32) gj15 ?_)
            rcases j15 with r | j15
            · obtain rfl := Option.some.inj hf; exact hK
            · show AW G mX12_men (d + 2) 0 0 K 153 [none, none, none, none, none, some (.int j15.2), none, none, none] [] (j15.1, J, ρ)
              refine AW.iload dX12_men_153 rfl ?_
              obtain rfl := Option.some.inj hf
              exact AW.iret (st := []) dX12_men_155 rfl hK
          · have hf := (if_neg hc).symm.trans hf
            refine AW.bipush (v := (-13 : Int32)) dX12_men_55 (by decide) ?_
            obtain rfl := Option.some.inj hf
            exact AW.iret (st := []) dX12_men_57 rfl hK
        · have hf := (if_pos hc).symm.trans hf
          refine AW.bipush (v := (-11 : Int32)) dX12_men_42 (by decide) ?_
          obtain rfl := Option.some.inj hf
          exact AW.iret (st := []) dX12_men_44 rfl hK
      · have hf := (if_pos hc).symm.trans hf
        refine AW.bipush (v := (-2 : Int32)) dX12_men_29 (by decide) ?_
        obtain rfl := Option.some.inj hf
        exact AW.iret (st := []) dX12_men_31 rfl hK
def f_X12_isUnder (N : Nat) (ρ : Rh) (I : Nat → Nat → Int32) (J : Nat → Nat → Int64) (p1 : Int32) (p2 : Int32) : Option (Int32) := (if (p2 = (0 : Int32)) then some (1 : Int32) else (if (p1 = p2) then some (1 : Int32) else (if (p2 = (1 : Int32)) then (if (p1 = (5 : Int32)) then some (1 : Int32) else (if (p2 = (2 : Int32)) then (if (p1 = (3 : Int32)) then some (1 : Int32) else some (0 : Int32)) else some (0 : Int32))) else (if (p2 = (2 : Int32)) then (if (p1 = (3 : Int32)) then some (1 : Int32) else some (0 : Int32)) else some (0 : Int32)))))
theorem c_X12_isUnder {G : Gd} {d N : Nat} {K : Ah → Option Value → Prop} {ρ : Rh} {I : Nat → Nat → Int32} {J : Nat → Nat → Int64} {p1 : Int32} {p2 : Int32} {o : Int32} (hs : Sh ρ) (hf : f_X12_isUnder N ρ I J p1 p2 = some o) (hK : K (I, J, ρ) (some (.int o))) : AM G d 0 0 mX12_isUnder [.int p1, .int p2] (I, J, ρ) K := by
  unfold f_X12_isUnder at hf
  refine AM.intro okX12_isUnder.2.2.2.1 (Nat.le_of_ble_eq_true rfl) [some (.int p1), some (.int p2)] rfl ?_
  refine AW.iload_n dX12_isUnder_0 rfl ?_
  refine AW.if_eq (tgt := 29) dX12_isUnder_1 (by decide) (fun hc => ?_) (fun hc => ?_)
  · have hf := (if_pos hc).symm.trans hf
    refine AW.iconst (v := (1 : Int32)) dX12_isUnder_29 (by decide) ?_
    refine AW.goto (tgt := 34) dX12_isUnder_30 (by decide) ?_
    obtain rfl := Option.some.inj hf
    exact AW.zret (st := []) dX12_isUnder_34 rfl (Or.inr rfl) hK
  · have hf := (if_neg hc).symm.trans hf
    refine AW.iload_n dX12_isUnder_4 rfl ?_
    refine AW.iload_n dX12_isUnder_5 rfl ?_
    refine AW.icmp_eq (tgt := 29) dX12_isUnder_6 (by decide) (fun hc => ?_) (fun hc => ?_)
    · have hf := (if_pos hc).symm.trans hf
      refine AW.iconst (v := (1 : Int32)) dX12_isUnder_29 (by decide) ?_
      refine AW.goto (tgt := 34) dX12_isUnder_30 (by decide) ?_
      obtain rfl := Option.some.inj hf
      exact AW.zret (st := []) dX12_isUnder_34 rfl (Or.inr rfl) hK
    · have hf := (if_neg hc).symm.trans hf
      refine AW.iload_n dX12_isUnder_9 rfl ?_
      refine AW.iconst (v := (1 : Int32)) dX12_isUnder_10 (by decide) ?_
      refine AW.icmp_ne (tgt := 19) dX12_isUnder_11 (by decide) (fun hc => ?_) (fun hc => ?_)
      · have hf := (if_neg hc).symm.trans hf
        refine AW.iload_n dX12_isUnder_19 rfl ?_
        refine AW.iconst (v := (2 : Int32)) dX12_isUnder_20 (by decide) ?_
        refine AW.icmp_ne (tgt := 33) dX12_isUnder_21 (by decide) (fun hc => ?_) (fun hc => ?_)
        · have hf := (if_neg hc).symm.trans hf
          refine AW.iconst (v := (0 : Int32)) dX12_isUnder_33 (by decide) ?_
          obtain rfl := Option.some.inj hf
          exact AW.zret (st := []) dX12_isUnder_34 rfl (Or.inl rfl) hK
        · have hf := (if_pos hc).symm.trans hf
          refine AW.iload_n dX12_isUnder_24 rfl ?_
          refine AW.iconst (v := (3 : Int32)) dX12_isUnder_25 (by decide) ?_
          refine AW.icmp_ne (tgt := 33) dX12_isUnder_26 (by decide) (fun hc => ?_) (fun hc => ?_)
          · have hf := (if_neg hc).symm.trans hf
            refine AW.iconst (v := (0 : Int32)) dX12_isUnder_33 (by decide) ?_
            obtain rfl := Option.some.inj hf
            exact AW.zret (st := []) dX12_isUnder_34 rfl (Or.inl rfl) hK
          · have hf := (if_pos hc).symm.trans hf
            refine AW.iconst (v := (1 : Int32)) dX12_isUnder_29 (by decide) ?_
            refine AW.goto (tgt := 34) dX12_isUnder_30 (by decide) ?_
            obtain rfl := Option.some.inj hf
            exact AW.zret (st := []) dX12_isUnder_34 rfl (Or.inr rfl) hK
      · have hf := (if_pos hc).symm.trans hf
        refine AW.iload_n dX12_isUnder_14 rfl ?_
        refine AW.iconst (v := (5 : Int32)) dX12_isUnder_15 (by decide) ?_
        refine AW.icmp_eq (tgt := 29) dX12_isUnder_16 (by decide) (fun hc => ?_) (fun hc => ?_)
        · have hf := (if_pos hc).symm.trans hf
          refine AW.iconst (v := (1 : Int32)) dX12_isUnder_29 (by decide) ?_
          refine AW.goto (tgt := 34) dX12_isUnder_30 (by decide) ?_
          obtain rfl := Option.some.inj hf
          exact AW.zret (st := []) dX12_isUnder_34 rfl (Or.inr rfl) hK
        · have hf := (if_neg hc).symm.trans hf
          refine AW.iload_n dX12_isUnder_19 rfl ?_
          refine AW.iconst (v := (2 : Int32)) dX12_isUnder_20 (by decide) ?_
          refine AW.icmp_ne (tgt := 33) dX12_isUnder_21 (by decide) (fun hc => ?_) (fun hc => ?_)
          · have hf := (if_neg hc).symm.trans hf
            refine AW.iconst (v := (0 : Int32)) dX12_isUnder_33 (by decide) ?_
            obtain rfl := Option.some.inj hf
            exact AW.zret (st := []) dX12_isUnder_34 rfl (Or.inl rfl) hK
          · have hf := (if_pos hc).symm.trans hf
            refine AW.iload_n dX12_isUnder_24 rfl ?_
            refine AW.iconst (v := (3 : Int32)) dX12_isUnder_25 (by decide) ?_
            refine AW.icmp_ne (tgt := 33) dX12_isUnder_26 (by decide) (fun hc => ?_) (fun hc => ?_)
            · have hf := (if_neg hc).symm.trans hf
              refine AW.iconst (v := (0 : Int32)) dX12_isUnder_33 (by decide) ?_
              obtain rfl := Option.some.inj hf
              exact AW.zret (st := []) dX12_isUnder_34 rfl (Or.inl rfl) hK
            · have hf := (if_pos hc).symm.trans hf
              refine AW.iconst (v := (1 : Int32)) dX12_isUnder_29 (by decide) ?_
              refine AW.goto (tgt := 34) dX12_isUnder_30 (by decide) ?_
              obtain rfl := Option.some.inj hf
              exact AW.zret (st := []) dX12_isUnder_34 rfl (Or.inr rfl) hK
def f_X12_taken (N : Nat) (ρ : Rh) (I : Nat → Nat → Int32) (J : Nat → Nat → Int64) (p1 : Int32) (p2 : Int32) : Option (Int32) := (Option.bind (f_X12_in N ρ I J p2 (0 : Int32) (6 : Int32)) fun v1 => (if (v1 = (0 : Int32)) then some (-2 : Int32) else (Option.bind (f_X12_in N ρ I J p1 (0 : Int32) (15 : Int32)) fun v2 => (if (v2 = (0 : Int32)) then some (-12 : Int32) else (if ((8 : Int32) ≤ p1) then (if ((p1 - (8 : Int32)) < (I 89 9)) then (if ((6 : Int32) ≤ p2) then some (-13 : Int32) else (if ¬ ((p1 - (8 : Int32)) < 0 ∨ 8 ≤ tn (p1 - (8 : Int32))) then (Option.bind (f_X12_isUnder N ρ I J (I 94 (tn (p1 - (8 : Int32)))) p2) fun v5 => (if (v5 = (0 : Int32)) then some (-13 : Int32) else some (p1 - (8 : Int32)))) else none)) else some (-11 : Int32)) else (if (p1 < (I 89 0)) then (if (p2 = (6 : Int32)) then (if ¬ (p1 < 0 ∨ 8 ≤ tn p1) then some (I 90 (tn p1)) else none) else some (-13 : Int32)) else some (-11 : Int32)))))))
theorem c_X12_taken {G : Gd} {d N : Nat} {K : Ah → Option Value → Prop} {ρ : Rh} {I : Nat → Nat → Int32} {J : Nat → Nat → Int64} {p1 : Int32} {p2 : Int32} {o : Int32} (hs : Sh ρ) (hf : f_X12_taken N ρ I J p1 p2 = some o) (hK : K (I, J, ρ) (some (.int o))) : AM G (d + 1) 0 0 mX12_taken [.ref 89, .int p1, .int p2] (I, J, ρ) K := by
  unfold f_X12_taken at hf
  refine AM.intro okX12_taken.2.2.2.1 (Nat.le_of_ble_eq_true rfl) [some (.ref 89), some (.int p1), some (.int p2)] rfl ?_
  refine AW.iload_n dX12_taken_0 rfl ?_
  refine AW.iconst (v := (0 : Int32)) dX12_taken_1 (by decide) ?_
  refine AW.bipush (v := (6 : Int32)) dX12_taken_2 (by decide) ?_
  obtain ⟨v1, gv1, hf⟩ := ob_split hf
  refine TW.invs (as := [.int p2, .int (0 : Int32), .int (6 : Int32)]) (rest := []) stX12_133 dX12_taken_4 rfl rfl (Nat.le_of_ble_eq_true rfl) (c_X12_in hs gv1 ?_)
  show AW G mX12_taken (d + 1) 0 0 K 7 [some (.ref 89), some (.int p1), some (.int p2)] [.int v1] (I, J, ρ)
  refine AW.if_ne (tgt := 13) dX12_taken_7 (by decide) (fun hc => ?_) (fun hc => ?_)
  · have hf := (if_neg hc).symm.trans hf
    refine AW.iload_n dX12_taken_13 rfl ?_
    refine AW.iconst (v := (0 : Int32)) dX12_taken_14 (by decide) ?_
    refine AW.bipush (v := (15 : Int32)) dX12_taken_15 (by decide) ?_
    obtain ⟨v2, gv2, hf⟩ := ob_split hf
    refine TW.invs (as := [.int p1, .int (0 : Int32), .int (15 : Int32)]) (rest := []) stX12_133 dX12_taken_17 rfl rfl (Nat.le_of_ble_eq_true rfl) (c_X12_in hs gv2 ?_)
    show AW G mX12_taken (d + 1) 0 0 K 20 [some (.ref 89), some (.int p1), some (.int p2)] [.int v2] (I, J, ρ)
    refine AW.if_ne (tgt := 26) dX12_taken_20 (by decide) (fun hc => ?_) (fun hc => ?_)
    · have hf := (if_neg hc).symm.trans hf
      refine AW.iload_n dX12_taken_26 rfl ?_
      refine AW.bipush (v := (8 : Int32)) dX12_taken_27 (by decide) ?_
      refine AW.icmp_ge (tgt := 63) dX12_taken_29 (by decide) (fun hc => ?_) (fun hc => ?_)
      · have hf := (if_pos hc).symm.trans hf
        refine AW.iload_n dX12_taken_63 rfl ?_
        refine AW.bipush (v := (8 : Int32)) dX12_taken_64 (by decide) ?_
        refine AW.isub dX12_taken_66 ?_
        refine AW.aload_n dX12_taken_67 rfl ?_
        refine TW.getI (x := (I 89 9)) fX12_137_12 hs.k89 rfl dX12_taken_68 ?_
        refine AW.icmp_lt (tgt := 79) dX12_taken_71 (by decide) (fun hc => ?_) (fun hc => ?_)
        · have hf := (if_pos hc).symm.trans hf
          refine AW.iload_n dX12_taken_79 rfl ?_
          refine AW.bipush (v := (6 : Int32)) dX12_taken_80 (by decide) ?_
          refine AW.icmp_ge (tgt := 108) dX12_taken_82 (by decide) (fun hc => ?_) (fun hc => ?_)
          · have hf := (if_pos hc).symm.trans hf
            refine AW.bipush (v := (-13 : Int32)) dX12_taken_108 (by decide) ?_
            obtain rfl := Option.some.inj hf
            exact AW.iret (st := []) dX12_taken_110 rfl hK
          · have hf := (if_neg hc).symm.trans hf
            refine AW.aload_n dX12_taken_85 rfl ?_
            refine TW.getR fX12_35_12 hs.k89 (rf_some hs.r89_10) dX12_taken_86 ?_
            refine AW.iload_n dX12_taken_89 rfl ?_
            refine AW.bipush (v := (8 : Int32)) dX12_taken_90 (by decide) ?_
            refine AW.isub dX12_taken_92 ?_
            obtain ⟨h4, hf⟩ := gd_split hf
            refine TW.iald (x := (I 94 (tn (p1 - (8 : Int32))))) hs.k94 h4 rfl dX12_taken_93 ?_
            refine AW.iload_n dX12_taken_94 rfl ?_
            obtain ⟨v5, gv5, hf⟩ := ob_split hf
            refine TW.invs (as := [.int (I 94 (tn (p1 - (8 : Int32)))), .int p2]) (rest := []) stX12_303 dX12_taken_95 rfl rfl (Nat.le_of_ble_eq_true rfl) (c_X12_isUnder hs gv5 ?_)
            show AW G mX12_taken (d + 1) 0 0 K 98 [some (.ref 89), some (.int p1), some (.int p2)] [.int v5] (I, J, ρ)
            refine AW.if_eq (tgt := 108) dX12_taken_98 (by decide) (fun hc => ?_) (fun hc => ?_)
            · have hf := (if_pos hc).symm.trans hf
              refine AW.bipush (v := (-13 : Int32)) dX12_taken_108 (by decide) ?_
              obtain rfl := Option.some.inj hf
              exact AW.iret (st := []) dX12_taken_110 rfl hK
            · have hf := (if_neg hc).symm.trans hf
              refine AW.iload_n dX12_taken_101 rfl ?_
              refine AW.bipush (v := (8 : Int32)) dX12_taken_102 (by decide) ?_
              refine AW.isub dX12_taken_104 ?_
              refine AW.goto (tgt := 110) dX12_taken_105 (by decide) ?_
              obtain rfl := Option.some.inj hf
              exact AW.iret (st := []) dX12_taken_110 rfl hK
        · have hf := (if_neg hc).symm.trans hf
          refine AW.bipush (v := (-11 : Int32)) dX12_taken_74 (by decide) ?_
          refine AW.goto (tgt := 110) dX12_taken_76 (by decide) ?_
          obtain rfl := Option.some.inj hf
          exact AW.iret (st := []) dX12_taken_110 rfl hK
      · have hf := (if_neg hc).symm.trans hf
        refine AW.iload_n dX12_taken_32 rfl ?_
        refine AW.aload_n dX12_taken_33 rfl ?_
        refine TW.getI (x := (I 89 0)) fX12_130_12 hs.k89 rfl dX12_taken_34 ?_
        refine AW.icmp_lt (tgt := 45) dX12_taken_37 (by decide) (fun hc => ?_) (fun hc => ?_)
        · have hf := (if_pos hc).symm.trans hf
          refine AW.iload_n dX12_taken_45 rfl ?_
          refine AW.bipush (v := (6 : Int32)) dX12_taken_46 (by decide) ?_
          refine AW.icmp_ne (tgt := 60) dX12_taken_48 (by decide) (fun hc => ?_) (fun hc => ?_)
          · have hf := (if_neg hc).symm.trans hf
            refine AW.bipush (v := (-13 : Int32)) dX12_taken_60 (by decide) ?_
            obtain rfl := Option.some.inj hf
            exact AW.iret (st := []) dX12_taken_62 rfl hK
          · have hf := (if_pos hc).symm.trans hf
            refine AW.aload_n dX12_taken_51 rfl ?_
            refine TW.getR fX12_7_12 hs.k89 (rf_some hs.r89_1) dX12_taken_52 ?_
            refine AW.iload_n dX12_taken_55 rfl ?_
            obtain ⟨h3, hf⟩ := gd_split hf
            refine TW.iald (x := (I 90 (tn p1))) hs.k90 h3 rfl dX12_taken_56 ?_
            refine AW.goto (tgt := 62) dX12_taken_57 (by decide) ?_
            obtain rfl := Option.some.inj hf
            exact AW.iret (st := []) dX12_taken_62 rfl hK
        · have hf := (if_neg hc).symm.trans hf
          refine AW.bipush (v := (-11 : Int32)) dX12_taken_40 (by decide) ?_
          refine AW.goto (tgt := 62) dX12_taken_42 (by decide) ?_
          obtain rfl := Option.some.inj hf
          exact AW.iret (st := []) dX12_taken_62 rfl hK
    · have hf := (if_pos hc).symm.trans hf
      refine AW.bipush (v := (-12 : Int32)) dX12_taken_23 (by decide) ?_
      obtain rfl := Option.some.inj hf
      exact AW.iret (st := []) dX12_taken_25 rfl hK
  · have hf := (if_pos hc).symm.trans hf
    refine AW.bipush (v := (-2 : Int32)) dX12_taken_10 (by decide) ?_
    obtain rfl := Option.some.inj hf
    exact AW.iret (st := []) dX12_taken_12 rfl hK
