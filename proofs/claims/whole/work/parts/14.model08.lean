/-! ===== methods 14.model 8 ===== -/
def f_X12_until_52 (N : Nat) (I : Nat → Nat → Int32) (J : Nat → Nat → Int64) (ρ : Rh) (p2 : Int32) (j4 : Int32) : Nat → Int32 → Int32 → Option (Int32)
  | 0, _, _ => none
  | n + 1, i5, i6 => (if (j4 < i6) then some i5 else (if ¬ ((((8 : Int32) * i6) + p2) < 0 ∨ 104 ≤ tn (((8 : Int32) * i6) + p2)) then (((if ((I 100 (tn (((8 : Int32) * i6) + p2))) ≤ (0 : Int32)) then some i5 else some i6) : Option (Int32)).bind fun j8 => f_X12_until_52 N I J ρ p2 j4 n j8 (i6 + (1 : Int32))) else none))
theorem l_X12_until_52 {G : Gd} {d N : Nat} {K : Ah → Option Value → Prop} {I : Nat → Nat → Int32} {J : Nat → Nat → Int64} {ρ : Rh} {p2 : Int32} {j4 : Int32} (hs : Sh ρ) {o : Int32} : ∀ (n : Nat) (i5 : Int32) (i6 : Int32), f_X12_until_52 N I J ρ p2 j4 n i5 i6 = some o → AW G mX12_until (d + 4) 0 0 K 88 [none, none, none, none, some (.int o), none] [] (I, J, ρ) → AW G mX12_until (d + 4) 0 0 K 52 [some (.ref 89), none, some (.int p2), some (.int j4), some (.int i5), some (.int i6)] [] (I, J, ρ) := by
  intro n
  induction n with
  | zero => intro i5 i6 hf hE; rw [f_X12_until_52.eq_1] at hf; cases hf
  | succ n ih =>
    intro i5 i6 hf hE
    rw [f_X12_until_52.eq_2] at hf
    refine AW.iload dX12_until_52 rfl ?_
    refine AW.iload_n dX12_until_54 rfl ?_
    refine AW.icmp_gt (tgt := 88) dX12_until_55 (by decide) (fun hc => ?_) (fun hc => ?_)
    · have hf := (if_pos hc).symm.trans hf
      obtain rfl := Option.some.inj hf
      exact AW.weak _ (by exact (And.intro rfl trivial)) hE
    · have hf := (if_neg hc).symm.trans hf
      refine AW.aload_n dX12_until_58 rfl ?_
      refine TW.getR fX12_56_12 hs.k89 (rf_some hs.r89_19) dX12_until_59 ?_
      refine AW.bipush (v := (8 : Int32)) dX12_until_62 (by decide) ?_
      refine AW.iload dX12_until_64 rfl ?_
      refine AW.imul dX12_until_66 ?_
      refine AW.iload_n dX12_until_67 rfl ?_
      refine AW.iadd dX12_until_68 ?_
      obtain ⟨h7, hf⟩ := gd_split hf
      refine TW.iald (x := (I 100 (tn (((8 : Int32) * i6) + p2)))) hs.k100 h7 rfl dX12_until_69 ?_
      obtain ⟨j8, gj8, hf⟩ := ob_split hf
      have Kj8 : AW G mX12_until (d + 4) 0 0 K 80 [some (.ref 89), none, some (.int p2), some (.int j4), none, some (.int i6)] [.int j8] (I, J, ρ) := by
        refine AW.istore (ls' := [some (.ref 89), none, some (.int p2), some (.int j4), some (.int j8), some (.int i6)]) dX12_until_80 (Nat.le_of_ble_eq_true rfl) rfl ?_
        refine AW.iinc (v := (i6 + (1 : Int32))) (ls' := [some (.ref 89), none, some (.int p2), some (.int j4), some (.int j8), some (.int (i6 + (1 : Int32)))]) dX12_until_82 rfl rfl (Nat.le_of_ble_eq_true rfl) rfl ?_
        refine AW.goto (tgt := 52) dX12_until_85 (by decide) ?_
        exact AW.weak _ (by exact (And.intro rfl (And.intro rfl (And.intro rfl (And.intro rfl (And.intro rfl trivial)))))) (ih j8 (i6 + (1 : Int32)) hf hE)
      clear hf; have hf := gj8; clear gj8
      refine AW.if_le (tgt := 78) dX12_until_70 (by decide) (fun hc => ?_) (fun hc => ?_)
      · have hf := (if_pos hc).symm.trans hf
        refine AW.iload dX12_until_78 rfl ?_
        obtain rfl := Option.some.inj hf
        exact AW.weak _ (by exact (And.intro rfl (And.intro rfl (And.intro rfl (And.intro rfl trivial))))) Kj8
      · have hf := (if_neg hc).symm.trans hf
        refine AW.iload dX12_until_73 rfl ?_
        refine AW.goto (tgt := 80) dX12_until_75 (by decide) ?_
        obtain rfl := Option.some.inj hf
        exact AW.weak _ (by exact (And.intro rfl (And.intro rfl (And.intro rfl (And.intro rfl trivial))))) Kj8
def f_X12_until (N : Nat) (ρ : Rh) (I : Nat → Nat → Int32) (J : Nat → Nat → Int64) (p1 : Int32) (p2 : Int32) : Option ((Nat → Nat → Int32) × Int32) := (Option.bind (f_X12_isRule N ρ I J p1) fun v1 => (if (v1 = (0 : Int32)) then some (I, (-5 : Int32)) else (Option.bind (f_X12_isMan N ρ I J p2) fun v2 => (if (v2 = (0 : Int32)) then some (I, (-5 : Int32)) else (Option.bind (f_X12_goesPlain N ρ I J p1) fun v3 => (((if ((v3 89 23) = (-1 : Int32)) then some ((v3 89 3) - (1 : Int32)) else some (v3 89 23)) : Option (Int32)).bind fun j4 => ((f_X12_until_52 N v3 J ρ p2 j4 N (-1 : Int32) (0 : Int32)).bind fun j9 => some (v3, j9))))))))
theorem c_X12_until {G : Gd} {d N : Nat} {K : Ah → Option Value → Prop} {ρ : Rh} {I : Nat → Nat → Int32} {J : Nat → Nat → Int64} {p1 : Int32} {p2 : Int32} {o : (Nat → Nat → Int32) × Int32} (hs : Sh ρ) (hf : f_X12_until N ρ I J p1 p2 = some o) (hK : K (o.1, J, ρ) (some (.int o.2))) : AM G (d + 4) 0 0 mX12_until [.ref 89, .int p1, .int p2] (I, J, ρ) K := by
  unfold f_X12_until at hf
  refine AM.intro okX12_until.2.2.2.1 (Nat.le_of_ble_eq_true rfl) [some (.ref 89), some (.int p1), some (.int p2), none, none, none] rfl ?_
  refine AW.aload_n dX12_until_0 rfl ?_
  refine AW.iload_n dX12_until_1 rfl ?_
  obtain ⟨v1, gv1, hf⟩ := ob_split hf
  refine TW.invv (as := [.int p1]) (rest := []) viX12_154_12 hs.k89 dX12_until_2 rfl rfl (Nat.le_of_ble_eq_true rfl) (c_X12_isRule hs gv1 ?_)
  show AW G mX12_until (d + 4) 0 0 K 5 [some (.ref 89), some (.int p1), some (.int p2), none, none, none] [.int v1] (I, J, ρ)
  refine AW.if_eq (tgt := 16) dX12_until_5 (by decide) (fun hc => ?_) (fun hc => ?_)
  · have hf := (if_pos hc).symm.trans hf
    refine AW.bipush (v := (-5 : Int32)) dX12_until_16 (by decide) ?_
    obtain rfl := Option.some.inj hf
    exact AW.iret (st := []) dX12_until_18 rfl hK
  · have hf := (if_neg hc).symm.trans hf
    refine AW.aload_n dX12_until_8 rfl ?_
    refine AW.iload_n dX12_until_9 rfl ?_
    obtain ⟨v2, gv2, hf⟩ := ob_split hf
    refine TW.invv (as := [.int p2]) (rest := []) viX12_140_12 hs.k89 dX12_until_10 rfl rfl (Nat.le_of_ble_eq_true rfl) (c_X12_isMan hs gv2 ?_)
    show AW G mX12_until (d + 4) 0 0 K 13 [some (.ref 89), some (.int p1), some (.int p2), none, none, none] [.int v2] (I, J, ρ)
    refine AW.if_ne (tgt := 19) dX12_until_13 (by decide) (fun hc => ?_) (fun hc => ?_)
    · have hf := (if_neg hc).symm.trans hf
      refine AW.aload_n dX12_until_19 rfl ?_
      refine AW.iload_n dX12_until_20 rfl ?_
      obtain ⟨v3, gv3, hf⟩ := ob_split hf
      refine TW.invv (as := [.int p1]) (rest := []) viX12_253_12 hs.k89 dX12_until_21 rfl rfl (Nat.le_of_ble_eq_true rfl) (c_X12_goesPlain hs gv3 ?_)
      show AW G mX12_until (d + 4) 0 0 K 24 [some (.ref 89), some (.int p1), some (.int p2), none, none, none] [] (v3, J, ρ)
      refine AW.aload_n dX12_until_24 rfl ?_
      refine TW.getI (x := (v3 89 23)) fX12_222_12 hs.k89 rfl dX12_until_25 ?_
      refine AW.iconst (v := (-1 : Int32)) dX12_until_28 (by decide) ?_
      obtain ⟨j4, gj4, hf⟩ := ob_split hf
      have Kj4 : AW G mX12_until (d + 4) 0 0 K 45 [some (.ref 89), none, some (.int p2), none, none, none] [.int j4] (v3, J, ρ) := by
        refine AW.istore_n (ls' := [some (.ref 89), none, some (.int p2), some (.int j4), none, none]) dX12_until_45 (Nat.le_of_ble_eq_true rfl) rfl ?_
        refine AW.iconst (v := (-1 : Int32)) dX12_until_46 (by decide) ?_
        refine AW.istore (ls' := [some (.ref 89), none, some (.int p2), some (.int j4), some (.int (-1 : Int32)), none]) dX12_until_47 (Nat.le_of_ble_eq_true rfl) rfl ?_
        refine AW.iconst (v := (0 : Int32)) dX12_until_49 (by decide) ?_
        refine AW.istore (ls' := [some (.ref 89), none, some (.int p2), some (.int j4), some (.int (-1 : Int32)), some (.int (0 : Int32))]) dX12_until_50 (Nat.le_of_ble_eq_true rfl) rfl ?_
        obtain ⟨j9, gj9, hf⟩ := ob_split hf
        refine AW.weak _ (by exact (And.intro rfl (And.intro rfl (And.intro rfl (And.intro rfl (And.intro rfl trivial)))))) (l_X12_until_52 hs N (-1 : Int32) (0 : Int32) gj9 ?_)
        show AW G mX12_until (d + 4) 0 0 K 88 [none, none, none, none, some (.int j9), none] [] (v3, J, ρ)
        refine AW.iload dX12_until_88 rfl ?_
        obtain rfl := Option.some.inj hf
        exact AW.iret (st := []) dX12_until_90 rfl hK
      clear hf; have hf := gj4; clear gj4
      refine AW.icmp_ne (tgt := 41) dX12_until_29 (by decide) (fun hc => ?_) (fun hc => ?_)
      · have hf := (if_neg hc).symm.trans hf
        refine AW.aload_n dX12_until_41 rfl ?_
        refine TW.getI (x := (v3 89 23)) fX12_222_12 hs.k89 rfl dX12_until_42 ?_
        obtain rfl := Option.some.inj hf
        exact AW.weak _ (by exact (And.intro rfl (And.intro rfl trivial))) Kj4
      · have hf := (if_pos hc).symm.trans hf
        refine AW.aload_n dX12_until_32 rfl ?_
        refine TW.getI (x := (v3 89 3)) fX12_16_12 hs.k89 rfl dX12_until_33 ?_
        refine AW.iconst (v := (1 : Int32)) dX12_until_36 (by decide) ?_
        refine AW.isub dX12_until_37 ?_
        refine AW.goto (tgt := 45) dX12_until_38 (by decide) ?_
        obtain rfl := Option.some.inj hf
        exact AW.weak _ (by exact (And.intro rfl (And.intro rfl trivial))) Kj4
    · have hf := (if_pos hc).symm.trans hf
      refine AW.bipush (v := (-5 : Int32)) dX12_until_16 (by decide) ?_
      obtain rfl := Option.some.inj hf
      exact AW.iret (st := []) dX12_until_18 rfl hK
def f_X12_image_55 (N : Nat) (J : Nat → Nat → Int64) (ρ : Rh) : Nat → (Nat → Nat → Int32) → Int32 → Option ((Nat → Nat → Int32))
  | 0, _, _ => none
  | n + 1, I1, i2 => (if ((8 : Int32) ≤ i2) then some I1 else (if ¬ (i2 < 0 ∨ 8 ≤ tn i2) then (if ¬ (i2 < 0 ∨ 8 ≤ tn i2) then f_X12_image_55 N J ρ n (u2 I1 104 (tn i2) (I1 90 (tn i2))) (i2 + (1 : Int32)) else none) else none))
theorem l_X12_image_55 {G : Gd} {d N : Nat} {K : Ah → Option Value → Prop} {J : Nat → Nat → Int64} {ρ : Rh} (hs : Sh ρ) {o : (Nat → Nat → Int32)} : ∀ (n : Nat) (I1 : Nat → Nat → Int32) (i2 : Int32), f_X12_image_55 N J ρ n I1 i2 = some o → AW G mX12_image d 0 0 K 79 [some (.ref 89), none] [] (o, J, ρ) → AW G mX12_image d 0 0 K 55 [some (.ref 89), some (.int i2)] [] (I1, J, ρ) := by
  intro n
  induction n with
  | zero => intro I1 i2 hf hE; rw [f_X12_image_55.eq_1] at hf; cases hf
  | succ n ih =>
    intro I1 i2 hf hE
    rw [f_X12_image_55.eq_2] at hf
    refine AW.iload_n dX12_image_55 rfl ?_
    refine AW.bipush (v := (8 : Int32)) dX12_image_56 (by decide) ?_
    refine AW.icmp_ge (tgt := 79) dX12_image_58 (by decide) (fun hc => ?_) (fun hc => ?_)
    · have hf := (if_pos hc).symm.trans hf
      obtain rfl := Option.some.inj hf
      exact AW.weak _ (by exact (And.intro rfl trivial)) hE
    · have hf := (if_neg hc).symm.trans hf
      refine AW.aload_n dX12_image_61 rfl ?_
      refine TW.getR fX12_68_12 hs.k89 (rf_some hs.r89_31) dX12_image_62 ?_
      refine AW.iload_n dX12_image_65 rfl ?_
      refine AW.aload_n dX12_image_66 rfl ?_
      refine TW.getR fX12_7_12 hs.k89 (rf_some hs.r89_1) dX12_image_67 ?_
      refine AW.iload_n dX12_image_70 rfl ?_
      obtain ⟨h3, hf⟩ := gd_split hf
      refine TW.iald (x := (I1 90 (tn i2))) hs.k90 h3 rfl dX12_image_71 ?_
      obtain ⟨h4, hf⟩ := gd_split hf
      refine TW.iast hs.k104 h4 dX12_image_72 ?_
      show AW G mX12_image d 0 0 K 73 [some (.ref 89), some (.int i2)] [] ((u2 I1 104 (tn i2) (I1 90 (tn i2))), J, ρ)
      refine AW.iinc (v := (i2 + (1 : Int32))) (ls' := [some (.ref 89), some (.int (i2 + (1 : Int32)))]) dX12_image_73 rfl rfl (Nat.le_of_ble_eq_true rfl) rfl ?_
      refine AW.goto (tgt := 55) dX12_image_76 (by decide) ?_
      exact AW.weak _ (by exact (And.intro rfl (And.intro rfl trivial))) (ih (u2 I1 104 (tn i2) (I1 90 (tn i2))) (i2 + (1 : Int32)) hf hE)
def f_X12_image_81 (N : Nat) (J : Nat → Nat → Int64) (ρ : Rh) : Nat → (Nat → Nat → Int32) → Int32 → Option ((Nat → Nat → Int32))
  | 0, _, _ => none
  | n + 1, I6, i7 => (if ((12 : Int32) ≤ i7) then some I6 else (if ¬ (i7 < 0 ∨ 12 ≤ tn i7) then (if ¬ (i7 < 0 ∨ 12 ≤ tn i7) then (if ¬ (i7 < 0 ∨ 12 ≤ tn i7) then (if ¬ (i7 < 0 ∨ 12 ≤ tn i7) then f_X12_image_81 N J ρ n (u2 (u2 I6 105 (tn i7) (I6 92 (tn i7))) 106 (tn i7) (I6 93 (tn i7))) (i7 + (1 : Int32)) else none) else none) else none) else none))
theorem l_X12_image_81 {G : Gd} {d N : Nat} {K : Ah → Option Value → Prop} {J : Nat → Nat → Int64} {ρ : Rh} (hs : Sh ρ) {o : (Nat → Nat → Int32)} : ∀ (n : Nat) (I6 : Nat → Nat → Int32) (i7 : Int32), f_X12_image_81 N J ρ n I6 i7 = some o → AW G mX12_image d 0 0 K 117 [some (.ref 89), none] [] (o, J, ρ) → AW G mX12_image d 0 0 K 81 [some (.ref 89), some (.int i7)] [] (I6, J, ρ) := by
  intro n
  induction n with
  | zero => intro I6 i7 hf hE; rw [f_X12_image_81.eq_1] at hf; cases hf
  | succ n ih =>
    intro I6 i7 hf hE
    rw [f_X12_image_81.eq_2] at hf
    refine AW.iload_n dX12_image_81 rfl ?_
    refine AW.bipush (v := (12 : Int32)) dX12_image_82 (by decide) ?_
    refine AW.icmp_ge (tgt := 117) dX12_image_84 (by decide) (fun hc => ?_) (fun hc => ?_)
    · have hf := (if_pos hc).symm.trans hf
      obtain rfl := Option.some.inj hf
      exact AW.weak _ (by exact (And.intro rfl trivial)) hE
    · have hf := (if_neg hc).symm.trans hf
      refine AW.aload_n dX12_image_87 rfl ?_
      refine TW.getR fX12_71_12 hs.k89 (rf_some hs.r89_32) dX12_image_88 ?_
      refine AW.iload_n dX12_image_91 rfl ?_
      refine AW.aload_n dX12_image_92 rfl ?_
      refine TW.getR fX12_29_12 hs.k89 (rf_some hs.r89_7) dX12_image_93 ?_
      refine AW.iload_n dX12_image_96 rfl ?_
      obtain ⟨h8, hf⟩ := gd_split hf
      refine TW.iald (x := (I6 92 (tn i7))) hs.k92 h8 rfl dX12_image_97 ?_
      obtain ⟨h9, hf⟩ := gd_split hf
      refine TW.iast hs.k105 h9 dX12_image_98 ?_
      show AW G mX12_image d 0 0 K 99 [some (.ref 89), some (.int i7)] [] ((u2 I6 105 (tn i7) (I6 92 (tn i7))), J, ρ)
      refine AW.aload_n dX12_image_99 rfl ?_
      refine TW.getR fX12_74_12 hs.k89 (rf_some hs.r89_33) dX12_image_100 ?_
      refine AW.iload_n dX12_image_103 rfl ?_
      refine AW.aload_n dX12_image_104 rfl ?_
      refine TW.getR fX12_32_12 hs.k89 (rf_some hs.r89_8) dX12_image_105 ?_
      refine AW.iload_n dX12_image_108 rfl ?_
      obtain ⟨h10, hf⟩ := gd_split hf
      refine TW.iald (x := (I6 93 (tn i7))) hs.k93 h10 (u2_ne (by decide)) dX12_image_109 ?_
      obtain ⟨h11, hf⟩ := gd_split hf
      refine TW.iast hs.k106 h11 dX12_image_110 ?_
      show AW G mX12_image d 0 0 K 111 [some (.ref 89), some (.int i7)] [] ((u2 (u2 I6 105 (tn i7) (I6 92 (tn i7))) 106 (tn i7) (I6 93 (tn i7))), J, ρ)
      refine AW.iinc (v := (i7 + (1 : Int32))) (ls' := [some (.ref 89), some (.int (i7 + (1 : Int32)))]) dX12_image_111 rfl rfl (Nat.le_of_ble_eq_true rfl) rfl ?_
      refine AW.goto (tgt := 81) dX12_image_114 (by decide) ?_
      exact AW.weak _ (by exact (And.intro rfl (And.intro rfl trivial))) (ih (u2 (u2 I6 105 (tn i7) (I6 92 (tn i7))) 106 (tn i7) (I6 93 (tn i7))) (i7 + (1 : Int32)) hf hE)
def f_X12_image (N : Nat) (ρ : Rh) (I : Nat → Nat → Int32) (J : Nat → Nat → Int64) : Option ((Nat → Nat → Int32) × Int32) := ((f_X12_image_55 N J ρ N (u2 (u2 (u2 (u2 (u2 (u2 (u2 I 89 24 (1 : Int32)) 89 25 (I 89 0)) 89 26 (I 89 3)) 89 27 (I 89 4)) 89 28 (I 89 5)) 89 29 (I 89 6)) 89 30 (I 89 18)) (0 : Int32)).bind fun j5 => ((f_X12_image_81 N J ρ N j5 (0 : Int32)).bind fun j12 => some (j12, (j12 89 0))))
theorem c_X12_image {G : Gd} {d N : Nat} {K : Ah → Option Value → Prop} {ρ : Rh} {I : Nat → Nat → Int32} {J : Nat → Nat → Int64} {o : (Nat → Nat → Int32) × Int32} (hs : Sh ρ) (hf : f_X12_image N ρ I J = some o) (hK : K (o.1, J, ρ) (some (.int o.2))) : AM G d 0 0 mX12_image [.ref 89] (I, J, ρ) K := by
  unfold f_X12_image at hf
  refine AM.intro okX12_image.2.2.2.1 (Nat.le_of_ble_eq_true rfl) [some (.ref 89), none] rfl ?_
  refine AW.aload_n dX12_image_0 rfl ?_
  refine AW.iconst (v := (1 : Int32)) dX12_image_1 (by decide) ?_
  refine TW.putZ fX12_278_12 hs.k89 (Or.inr rfl) (Or.inl rfl) dX12_image_2 ?_
  show AW G mX12_image d 0 0 K 5 [some (.ref 89), none] [] ((u2 I 89 24 (1 : Int32)), J, ρ)
  refine AW.aload_n dX12_image_5 rfl ?_
  refine AW.aload_n dX12_image_6 rfl ?_
  refine TW.getI (x := (I 89 0)) fX12_130_12 hs.k89 (u2_nk (by decide)) dX12_image_7 ?_
  refine TW.putI fX12_282_12 hs.k89 (Or.inl rfl) dX12_image_10 ?_
  show AW G mX12_image d 0 0 K 13 [some (.ref 89), none] [] ((u2 (u2 I 89 24 (1 : Int32)) 89 25 (I 89 0)), J, ρ)
  refine AW.aload_n dX12_image_13 rfl ?_
  refine AW.aload_n dX12_image_14 rfl ?_
  refine TW.getI (x := (I 89 3)) fX12_16_12 hs.k89 ((u2_nk (by decide)).trans (u2_nk (by decide))) dX12_image_15 ?_
  refine TW.putI fX12_285_12 hs.k89 (Or.inl rfl) dX12_image_18 ?_
  show AW G mX12_image d 0 0 K 21 [some (.ref 89), none] [] ((u2 (u2 (u2 I 89 24 (1 : Int32)) 89 25 (I 89 0)) 89 26 (I 89 3)), J, ρ)
  refine AW.aload_n dX12_image_21 rfl ?_
  refine AW.aload_n dX12_image_22 rfl ?_
  refine TW.getI (x := (I 89 4)) fX12_20_12 hs.k89 ((u2_nk (by decide)).trans ((u2_nk (by decide)).trans (u2_nk (by decide)))) dX12_image_23 ?_
  refine TW.putI fX12_288_12 hs.k89 (Or.inl rfl) dX12_image_26 ?_
  show AW G mX12_image d 0 0 K 29 [some (.ref 89), none] [] ((u2 (u2 (u2 (u2 I 89 24 (1 : Int32)) 89 25 (I 89 0)) 89 26 (I 89 3)) 89 27 (I 89 4)), J, ρ)
  refine AW.aload_n dX12_image_29 rfl ?_
  refine AW.aload_n dX12_image_30 rfl ?_
  refine TW.getI (x := (I 89 5)) fX12_23_12 hs.k89 ((u2_nk (by decide)).trans ((u2_nk (by decide)).trans ((u2_nk (by decide)).trans (u2_nk (by decide))))) dX12_image_31 ?_
  refine TW.putI fX12_291_12 hs.k89 (Or.inl rfl) dX12_image_34 ?_
  show AW G mX12_image d 0 0 K 37 [some (.ref 89), none] [] ((u2 (u2 (u2 (u2 (u2 I 89 24 (1 : Int32)) 89 25 (I 89 0)) 89 26 (I 89 3)) 89 27 (I 89 4)) 89 28 (I 89 5)), J, ρ)
  refine AW.aload_n dX12_image_37 rfl ?_
  refine AW.aload_n dX12_image_38 rfl ?_
  refine TW.getI (x := (I 89 6)) fX12_26_12 hs.k89 ((u2_nk (by decide)).trans ((u2_nk (by decide)).trans ((u2_nk (by decide)).trans ((u2_nk (by decide)).trans (u2_nk (by decide)))))) dX12_image_39 ?_
  refine TW.putI fX12_294_12 hs.k89 (Or.inl rfl) dX12_image_42 ?_
  show AW G mX12_image d 0 0 K 45 [some (.ref 89), none] [] ((u2 (u2 (u2 (u2 (u2 (u2 I 89 24 (1 : Int32)) 89 25 (I 89 0)) 89 26 (I 89 3)) 89 27 (I 89 4)) 89 28 (I 89 5)) 89 29 (I 89 6)), J, ρ)
  refine AW.aload_n dX12_image_45 rfl ?_
  refine AW.aload_n dX12_image_46 rfl ?_
  refine TW.getI (x := (I 89 18)) fX12_148_12 hs.k89 ((u2_nk (by decide)).trans ((u2_nk (by decide)).trans ((u2_nk (by decide)).trans ((u2_nk (by decide)).trans ((u2_nk (by decide)).trans (u2_nk (by decide))))))) dX12_image_47 ?_
  refine TW.putI fX12_297_12 hs.k89 (Or.inl rfl) dX12_image_50 ?_
  show AW G mX12_image d 0 0 K 53 [some (.ref 89), none] [] ((u2 (u2 (u2 (u2 (u2 (u2 (u2 I 89 24 (1 : Int32)) 89 25 (I 89 0)) 89 26 (I 89 3)) 89 27 (I 89 4)) 89 28 (I 89 5)) 89 29 (I 89 6)) 89 30 (I 89 18)), J, ρ)
  refine AW.iconst (v := (0 : Int32)) dX12_image_53 (by decide) ?_
  refine AW.istore_n (ls' := [some (.ref 89), some (.int (0 : Int32))]) dX12_image_54 (Nat.le_of_ble_eq_true rfl) rfl ?_
  obtain ⟨j5, gj5, hf⟩ := ob_split hf
  refine AW.weak _ (by exact (And.intro rfl (And.intro rfl trivial))) (l_X12_image_55 hs N (u2 (u2 (u2 (u2 (u2 (u2 (u2 I 89 24 (1 : Int32)) 89 25 (I 89 0)) 89 26 (I 89 3)) 89 27 (I 89 4)) 89 28 (I 89 5)) 89 29 (I 89 6)) 89 30 (I 89 18)) (0 : Int32) gj5 ?_)
  show AW G mX12_image d 0 0 K 79 [some (.ref 89), none] [] (j5, J, ρ)
  refine AW.iconst (v := (0 : Int32)) dX12_image_79 (by decide) ?_
  refine AW.istore_n (ls' := [some (.ref 89), some (.int (0 : Int32))]) dX12_image_80 (Nat.le_of_ble_eq_true rfl) rfl ?_
  obtain ⟨j12, gj12, hf⟩ := ob_split hf
  refine AW.weak _ (by exact (And.intro rfl (And.intro rfl trivial))) (l_X12_image_81 hs N j5 (0 : Int32) gj12 ?_)
  show AW G mX12_image d 0 0 K 117 [some (.ref 89), none] [] (j12, J, ρ)
  refine AW.aload_n dX12_image_117 rfl ?_
  refine TW.getI (x := (j12 89 0)) fX12_130_12 hs.k89 rfl dX12_image_118 ?_
  obtain rfl := Option.some.inj hf
  exact AW.iret (st := []) dX12_image_121 rfl hK
def f_X12_back_52 (N : Nat) (J : Nat → Nat → Int64) (ρ : Rh) : Nat → (Nat → Nat → Int32) → Int32 → Option ((Nat → Nat → Int32))
  | 0, _, _ => none
  | n + 1, I1, i2 => (if ((I1 89 25) ≤ i2) then some I1 else (if ¬ (i2 < 0 ∨ 8 ≤ tn i2) then (if ¬ (i2 < 0 ∨ 8 ≤ tn i2) then f_X12_back_52 N J ρ n (u2 I1 90 (tn i2) (I1 104 (tn i2))) (i2 + (1 : Int32)) else none) else none))
theorem l_X12_back_52 {G : Gd} {d N : Nat} {K : Ah → Option Value → Prop} {J : Nat → Nat → Int64} {ρ : Rh} (hs : Sh ρ) {o : (Nat → Nat → Int32)} : ∀ (n : Nat) (I1 : Nat → Nat → Int32) (i2 : Int32), f_X12_back_52 N J ρ n I1 i2 = some o → AW G mX12_back d 0 0 K 78 [some (.ref 89), none] [] (o, J, ρ) → AW G mX12_back d 0 0 K 52 [some (.ref 89), some (.int i2)] [] (I1, J, ρ) := by
  intro n
  induction n with
  | zero => intro I1 i2 hf hE; rw [f_X12_back_52.eq_1] at hf; cases hf
  | succ n ih =>
    intro I1 i2 hf hE
    rw [f_X12_back_52.eq_2] at hf
    refine AW.iload_n dX12_back_52 rfl ?_
    refine AW.aload_n dX12_back_53 rfl ?_
    refine TW.getI (x := (I1 89 25)) fX12_282_12 hs.k89 rfl dX12_back_54 ?_
    refine AW.icmp_ge (tgt := 78) dX12_back_57 (by decide) (fun hc => ?_) (fun hc => ?_)
    · have hf := (if_pos hc).symm.trans hf
      obtain rfl := Option.some.inj hf
      exact AW.weak _ (by exact (And.intro rfl trivial)) hE
    · have hf := (if_neg hc).symm.trans hf
      refine AW.aload_n dX12_back_60 rfl ?_
      refine TW.getR fX12_7_12 hs.k89 (rf_some hs.r89_1) dX12_back_61 ?_
      refine AW.iload_n dX12_back_64 rfl ?_
      refine AW.aload_n dX12_back_65 rfl ?_
      refine TW.getR fX12_68_12 hs.k89 (rf_some hs.r89_31) dX12_back_66 ?_
      refine AW.iload_n dX12_back_69 rfl ?_
      obtain ⟨h3, hf⟩ := gd_split hf
      refine TW.iald (x := (I1 104 (tn i2))) hs.k104 h3 rfl dX12_back_70 ?_
      obtain ⟨h4, hf⟩ := gd_split hf
      refine TW.iast hs.k90 h4 dX12_back_71 ?_
      show AW G mX12_back d 0 0 K 72 [some (.ref 89), some (.int i2)] [] ((u2 I1 90 (tn i2) (I1 104 (tn i2))), J, ρ)
      refine AW.iinc (v := (i2 + (1 : Int32))) (ls' := [some (.ref 89), some (.int (i2 + (1 : Int32)))]) dX12_back_72 rfl rfl (Nat.le_of_ble_eq_true rfl) rfl ?_
      refine AW.goto (tgt := 52) dX12_back_75 (by decide) ?_
      exact AW.weak _ (by exact (And.intro rfl (And.intro rfl trivial))) (ih (u2 I1 90 (tn i2) (I1 104 (tn i2))) (i2 + (1 : Int32)) hf hE)
def f_X12_back_80 (N : Nat) (J : Nat → Nat → Int64) (ρ : Rh) : Nat → (Nat → Nat → Int32) → Int32 → Option ((Nat → Nat → Int32))
  | 0, _, _ => none
  | n + 1, I6, i7 => (if ((12 : Int32) ≤ i7) then some I6 else (if ¬ (i7 < 0 ∨ 12 ≤ tn i7) then (if ¬ (i7 < 0 ∨ 12 ≤ tn i7) then (if ¬ (i7 < 0 ∨ 12 ≤ tn i7) then (if ¬ (i7 < 0 ∨ 12 ≤ tn i7) then f_X12_back_80 N J ρ n (u2 (u2 I6 92 (tn i7) (I6 105 (tn i7))) 93 (tn i7) (I6 106 (tn i7))) (i7 + (1 : Int32)) else none) else none) else none) else none))
theorem l_X12_back_80 {G : Gd} {d N : Nat} {K : Ah → Option Value → Prop} {J : Nat → Nat → Int64} {ρ : Rh} (hs : Sh ρ) {o : (Nat → Nat → Int32)} : ∀ (n : Nat) (I6 : Nat → Nat → Int32) (i7 : Int32), f_X12_back_80 N J ρ n I6 i7 = some o → AW G mX12_back d 0 0 K 116 [some (.ref 89), none] [] (o, J, ρ) → AW G mX12_back d 0 0 K 80 [some (.ref 89), some (.int i7)] [] (I6, J, ρ) := by
  intro n
  induction n with
  | zero => intro I6 i7 hf hE; rw [f_X12_back_80.eq_1] at hf; cases hf
  | succ n ih =>
    intro I6 i7 hf hE
    rw [f_X12_back_80.eq_2] at hf
    refine AW.iload_n dX12_back_80 rfl ?_
    refine AW.bipush (v := (12 : Int32)) dX12_back_81 (by decide) ?_
    refine AW.icmp_ge (tgt := 116) dX12_back_83 (by decide) (fun hc => ?_) (fun hc => ?_)
    · have hf := (if_pos hc).symm.trans hf
      obtain rfl := Option.some.inj hf
      exact AW.weak _ (by exact (And.intro rfl trivial)) hE
    · have hf := (if_neg hc).symm.trans hf
      refine AW.aload_n dX12_back_86 rfl ?_
      refine TW.getR fX12_29_12 hs.k89 (rf_some hs.r89_7) dX12_back_87 ?_
      refine AW.iload_n dX12_back_90 rfl ?_
      refine AW.aload_n dX12_back_91 rfl ?_
      refine TW.getR fX12_71_12 hs.k89 (rf_some hs.r89_32) dX12_back_92 ?_
      refine AW.iload_n dX12_back_95 rfl ?_
      obtain ⟨h8, hf⟩ := gd_split hf
      refine TW.iald (x := (I6 105 (tn i7))) hs.k105 h8 rfl dX12_back_96 ?_
      obtain ⟨h9, hf⟩ := gd_split hf
      refine TW.iast hs.k92 h9 dX12_back_97 ?_
      show AW G mX12_back d 0 0 K 98 [some (.ref 89), some (.int i7)] [] ((u2 I6 92 (tn i7) (I6 105 (tn i7))), J, ρ)
      refine AW.aload_n dX12_back_98 rfl ?_
      refine TW.getR fX12_32_12 hs.k89 (rf_some hs.r89_8) dX12_back_99 ?_
      refine AW.iload_n dX12_back_102 rfl ?_
      refine AW.aload_n dX12_back_103 rfl ?_
      refine TW.getR fX12_74_12 hs.k89 (rf_some hs.r89_33) dX12_back_104 ?_
      refine AW.iload_n dX12_back_107 rfl ?_
      obtain ⟨h10, hf⟩ := gd_split hf
      refine TW.iald (x := (I6 106 (tn i7))) hs.k106 h10 (u2_ne (by decide)) dX12_back_108 ?_
      obtain ⟨h11, hf⟩ := gd_split hf
      refine TW.iast hs.k93 h11 dX12_back_109 ?_
      show AW G mX12_back d 0 0 K 110 [some (.ref 89), some (.int i7)] [] ((u2 (u2 I6 92 (tn i7) (I6 105 (tn i7))) 93 (tn i7) (I6 106 (tn i7))), J, ρ)
      refine AW.iinc (v := (i7 + (1 : Int32))) (ls' := [some (.ref 89), some (.int (i7 + (1 : Int32)))]) dX12_back_110 rfl rfl (Nat.le_of_ble_eq_true rfl) rfl ?_
      refine AW.goto (tgt := 80) dX12_back_113 (by decide) ?_
      exact AW.weak _ (by exact (And.intro rfl (And.intro rfl trivial))) (ih (u2 (u2 I6 92 (tn i7) (I6 105 (tn i7))) 93 (tn i7) (I6 106 (tn i7))) (i7 + (1 : Int32)) hf hE)
def f_X12_back (N : Nat) (ρ : Rh) (I : Nat → Nat → Int32) (J : Nat → Nat → Int64) : Option ((Nat → Nat → Int32) × Int32) := (if ((I 89 24) = (0 : Int32)) then some (I, (-3 : Int32)) else ((f_X12_back_52 N J ρ N (u2 (u2 (u2 (u2 (u2 I 89 3 (I 89 26)) 89 4 (I 89 27)) 89 5 (I 89 28)) 89 6 (I 89 29)) 89 18 (I 89 30)) (0 : Int32)).bind fun j5 => ((f_X12_back_80 N J ρ N j5 (0 : Int32)).bind fun j12 => some (j12, (j12 89 0)))))
theorem c_X12_back {G : Gd} {d N : Nat} {K : Ah → Option Value → Prop} {ρ : Rh} {I : Nat → Nat → Int32} {J : Nat → Nat → Int64} {o : (Nat → Nat → Int32) × Int32} (hs : Sh ρ) (hf : f_X12_back N ρ I J = some o) (hK : K (o.1, J, ρ) (some (.int o.2))) : AM G d 0 0 mX12_back [.ref 89] (I, J, ρ) K := by
  unfold f_X12_back at hf
  refine AM.intro okX12_back.2.2.2.1 (Nat.le_of_ble_eq_true rfl) [some (.ref 89), none] rfl ?_
  refine AW.aload_n dX12_back_0 rfl ?_
  refine TW.getI (x := (I 89 24)) fX12_278_12 hs.k89 rfl dX12_back_1 ?_
  refine AW.if_ne (tgt := 10) dX12_back_4 (by decide) (fun hc => ?_) (fun hc => ?_)
  · have hf := (if_neg hc).symm.trans hf
    refine AW.aload_n dX12_back_10 rfl ?_
    refine AW.aload_n dX12_back_11 rfl ?_
    refine TW.getI (x := (I 89 26)) fX12_285_12 hs.k89 rfl dX12_back_12 ?_
    refine TW.putI fX12_16_12 hs.k89 (Or.inl rfl) dX12_back_15 ?_
    show AW G mX12_back d 0 0 K 18 [some (.ref 89), none] [] ((u2 I 89 3 (I 89 26)), J, ρ)
    refine AW.aload_n dX12_back_18 rfl ?_
    refine AW.aload_n dX12_back_19 rfl ?_
    refine TW.getI (x := (I 89 27)) fX12_288_12 hs.k89 (u2_nk (by decide)) dX12_back_20 ?_
    refine TW.putI fX12_20_12 hs.k89 (Or.inl rfl) dX12_back_23 ?_
    show AW G mX12_back d 0 0 K 26 [some (.ref 89), none] [] ((u2 (u2 I 89 3 (I 89 26)) 89 4 (I 89 27)), J, ρ)
    refine AW.aload_n dX12_back_26 rfl ?_
    refine AW.aload_n dX12_back_27 rfl ?_
    refine TW.getI (x := (I 89 28)) fX12_291_12 hs.k89 ((u2_nk (by decide)).trans (u2_nk (by decide))) dX12_back_28 ?_
    refine TW.putI fX12_23_12 hs.k89 (Or.inl rfl) dX12_back_31 ?_
    show AW G mX12_back d 0 0 K 34 [some (.ref 89), none] [] ((u2 (u2 (u2 I 89 3 (I 89 26)) 89 4 (I 89 27)) 89 5 (I 89 28)), J, ρ)
    refine AW.aload_n dX12_back_34 rfl ?_
    refine AW.aload_n dX12_back_35 rfl ?_
    refine TW.getI (x := (I 89 29)) fX12_294_12 hs.k89 ((u2_nk (by decide)).trans ((u2_nk (by decide)).trans (u2_nk (by decide)))) dX12_back_36 ?_
    refine TW.putI fX12_26_12 hs.k89 (Or.inl rfl) dX12_back_39 ?_
    show AW G mX12_back d 0 0 K 42 [some (.ref 89), none] [] ((u2 (u2 (u2 (u2 I 89 3 (I 89 26)) 89 4 (I 89 27)) 89 5 (I 89 28)) 89 6 (I 89 29)), J, ρ)
    refine AW.aload_n dX12_back_42 rfl ?_
    refine AW.aload_n dX12_back_43 rfl ?_
    refine TW.getI (x := (I 89 30)) fX12_297_12 hs.k89 ((u2_nk (by decide)).trans ((u2_nk (by decide)).trans ((u2_nk (by decide)).trans (u2_nk (by decide))))) dX12_back_44 ?_
    refine TW.putI fX12_148_12 hs.k89 (Or.inl rfl) dX12_back_47 ?_
    show AW G mX12_back d 0 0 K 50 [some (.ref 89), none] [] ((u2 (u2 (u2 (u2 (u2 I 89 3 (I 89 26)) 89 4 (I 89 27)) 89 5 (I 89 28)) 89 6 (I 89 29)) 89 18 (I 89 30)), J, ρ)
    refine AW.iconst (v := (0 : Int32)) dX12_back_50 (by decide) ?_
    refine AW.istore_n (ls' := [some (.ref 89), some (.int (0 : Int32))]) dX12_back_51 (Nat.le_of_ble_eq_true rfl) rfl ?_
    obtain ⟨j5, gj5, hf⟩ := ob_split hf
    refine AW.weak _ (by exact (And.intro rfl (And.intro rfl trivial))) (l_X12_back_52 hs N (u2 (u2 (u2 (u2 (u2 I 89 3 (I 89 26)) 89 4 (I 89 27)) 89 5 (I 89 28)) 89 6 (I 89 29)) 89 18 (I 89 30)) (0 : Int32) gj5 ?_)
    show AW G mX12_back d 0 0 K 78 [some (.ref 89), none] [] (j5, J, ρ)
    refine AW.iconst (v := (0 : Int32)) dX12_back_78 (by decide) ?_
    refine AW.istore_n (ls' := [some (.ref 89), some (.int (0 : Int32))]) dX12_back_79 (Nat.le_of_ble_eq_true rfl) rfl ?_
    obtain ⟨j12, gj12, hf⟩ := ob_split hf
    refine AW.weak _ (by exact (And.intro rfl (And.intro rfl trivial))) (l_X12_back_80 hs N j5 (0 : Int32) gj12 ?_)
    show AW G mX12_back d 0 0 K 116 [some (.ref 89), none] [] (j12, J, ρ)
    refine AW.aload_n dX12_back_116 rfl ?_
    refine TW.getI (x := (j12 89 0)) fX12_130_12 hs.k89 rfl dX12_back_117 ?_
    obtain rfl := Option.some.inj hf
    exact AW.iret (st := []) dX12_back_120 rfl hK
  · have hf := (if_pos hc).symm.trans hf
    refine AW.bipush (v := (-3 : Int32)) dX12_back_7 (by decide) ?_
    obtain rfl := Option.some.inj hf
    exact AW.iret (st := []) dX12_back_9 rfl hK
def f_X12_sheet_70 (N : Nat) (J : Nat → Nat → Int64) (ρ : Rh) (p1 : Int32) : Nat → (Nat → Nat → Int32) → Int32 → Option ((Nat → Nat → Int32))
  | 0, _, _ => none
  | n + 1, I8, i9 => (if ((40 : Int32) ≤ i9) then some I8 else (if ¬ ((((40 : Int32) * p1) + i9) < 0 ∨ 160 ≤ tn (((40 : Int32) * p1) + i9)) then f_X12_sheet_70 N J ρ p1 n (u2 I8 109 (tn (((40 : Int32) * p1) + i9)) (0 : Int32)) (i9 + (1 : Int32)) else none))
theorem l_X12_sheet_70 {G : Gd} {d N : Nat} {K : Ah → Option Value → Prop} {J : Nat → Nat → Int64} {ρ : Rh} {p1 : Int32} (hs : Sh ρ) {o : (Nat → Nat → Int32)} : ∀ (n : Nat) (I8 : Nat → Nat → Int32) (i9 : Int32), f_X12_sheet_70 N J ρ p1 n I8 i9 = some o → AW G mX12_sheet (d + 1) 0 0 K 96 [none, none, none, none, none] [] (o, J, ρ) → AW G mX12_sheet (d + 1) 0 0 K 70 [some (.ref 89), some (.int p1), none, none, some (.int i9)] [] (I8, J, ρ) := by
  intro n
  induction n with
  | zero => intro I8 i9 hf hE; rw [f_X12_sheet_70.eq_1] at hf; cases hf
  | succ n ih =>
    intro I8 i9 hf hE
    rw [f_X12_sheet_70.eq_2] at hf
    refine AW.iload dX12_sheet_70 rfl ?_
    refine AW.bipush (v := (40 : Int32)) dX12_sheet_72 (by decide) ?_
    refine AW.icmp_ge (tgt := 96) dX12_sheet_74 (by decide) (fun hc => ?_) (fun hc => ?_)
    · have hf := (if_pos hc).symm.trans hf
      obtain rfl := Option.some.inj hf
      exact AW.weak _ (by exact trivial) hE
    · have hf := (if_neg hc).symm.trans hf
      refine AW.aload_n dX12_sheet_77 rfl ?_
      refine TW.getR fX12_83_12 hs.k89 (rf_some hs.r89_36) dX12_sheet_78 ?_
      refine AW.bipush (v := (40 : Int32)) dX12_sheet_81 (by decide) ?_
      refine AW.iload_n dX12_sheet_83 rfl ?_
      refine AW.imul dX12_sheet_84 ?_
      refine AW.iload dX12_sheet_85 rfl ?_
      refine AW.iadd dX12_sheet_87 ?_
      refine AW.iconst (v := (0 : Int32)) dX12_sheet_88 (by decide) ?_
      obtain ⟨h10, hf⟩ := gd_split hf
      refine TW.iast hs.k109 h10 dX12_sheet_89 ?_
      show AW G mX12_sheet (d + 1) 0 0 K 90 [some (.ref 89), some (.int p1), none, none, some (.int i9)] [] ((u2 I8 109 (tn (((40 : Int32) * p1) + i9)) (0 : Int32)), J, ρ)
      refine AW.iinc (v := (i9 + (1 : Int32))) (ls' := [some (.ref 89), some (.int p1), none, none, some (.int (i9 + (1 : Int32)))]) dX12_sheet_90 rfl rfl (Nat.le_of_ble_eq_true rfl) rfl ?_
      refine AW.goto (tgt := 70) dX12_sheet_93 (by decide) ?_
      exact AW.weak _ (by exact (And.intro rfl (And.intro rfl (And.intro rfl trivial)))) (ih (u2 I8 109 (tn (((40 : Int32) * p1) + i9)) (0 : Int32)) (i9 + (1 : Int32)) hf hE)
def f_X12_sheet (N : Nat) (ρ : Rh) (I : Nat → Nat → Int32) (J : Nat → Nat → Int64) (p1 : Int32) (p2 : Int32) (p3 : Int32) : Option ((Nat → Nat → Int32) × Int32) := (Option.bind (f_X12_in N ρ I J p1 (0 : Int32) (3 : Int32)) fun v1 => (if (v1 = (0 : Int32)) then some (I, (-2 : Int32)) else (Option.bind (f_X12_in N ρ I J p2 (-1 : Int32) (2 : Int32)) fun v2 => (if (v2 = (0 : Int32)) then some (I, (-2 : Int32)) else (((if (p2 = (-1 : Int32)) then some (Sum.inr ()) else (if (p3 ≤ (40 : Int32)) then some (Sum.inr ()) else some (Sum.inl (I, (-2 : Int32))))) : Option (((Nat → Nat → Int32) × Int32) ⊕ (Unit))).bind fun j3 => scase j3 (fun r => some r) (fun j3 => (((if (p2 = (-1 : Int32)) then some (Sum.inr ()) else (if ((0 : Int32) ≤ p3) then some (Sum.inr ()) else some (Sum.inl (I, (-14 : Int32))))) : Option (((Nat → Nat → Int32) × Int32) ⊕ (Unit))).bind fun j4 => scase j4 (fun r => some r) (fun j4 => (if ¬ (p1 < 0 ∨ 4 ≤ tn p1) then (((if (p2 = (-1 : Int32)) then some (0 : Int32) else some p3) : Option (Int32)).bind fun j6 => (if ¬ (p1 < 0 ∨ 4 ≤ tn p1) then ((f_X12_sheet_70 N J ρ p1 N (u2 (u2 I 107 (tn p1) p2) 108 (tn p1) j6) (0 : Int32)).bind fun j11 => some (j11, (1 : Int32))) else none)) else none)))))))))
theorem c_X12_sheet {G : Gd} {d N : Nat} {K : Ah → Option Value → Prop} {ρ : Rh} {I : Nat → Nat → Int32} {J : Nat → Nat → Int64} {p1 : Int32} {p2 : Int32} {p3 : Int32} {o : (Nat → Nat → Int32) × Int32} (hs : Sh ρ) (hf : f_X12_sheet N ρ I J p1 p2 p3 = some o) (hK : K (o.1, J, ρ) (some (.int o.2))) : AM G (d + 1) 0 0 mX12_sheet [.ref 89, .int p1, .int p2, .int p3] (I, J, ρ) K := by
  unfold f_X12_sheet at hf
  refine AM.intro okX12_sheet.2.2.2.1 (Nat.le_of_ble_eq_true rfl) [some (.ref 89), some (.int p1), some (.int p2), some (.int p3), none] rfl ?_
  refine AW.iload_n dX12_sheet_0 rfl ?_
  refine AW.iconst (v := (0 : Int32)) dX12_sheet_1 (by decide) ?_
  refine AW.iconst (v := (3 : Int32)) dX12_sheet_2 (by decide) ?_
  obtain ⟨v1, gv1, hf⟩ := ob_split hf
  refine TW.invs (as := [.int p1, .int (0 : Int32), .int (3 : Int32)]) (rest := []) stX12_133 dX12_sheet_3 rfl rfl (Nat.le_of_ble_eq_true rfl) (c_X12_in hs gv1 ?_)
  show AW G mX12_sheet (d + 1) 0 0 K 6 [some (.ref 89), some (.int p1), some (.int p2), some (.int p3), none] [.int v1] (I, J, ρ)
  refine AW.if_eq (tgt := 29) dX12_sheet_6 (by decide) (fun hc => ?_) (fun hc => ?_)
  · have hf := (if_pos hc).symm.trans hf
    refine AW.bipush (v := (-2 : Int32)) dX12_sheet_29 (by decide) ?_
    obtain rfl := Option.some.inj hf
    exact AW.iret (st := []) dX12_sheet_31 rfl hK
  · have hf := (if_neg hc).symm.trans hf
    refine AW.iload_n dX12_sheet_9 rfl ?_
    refine AW.iconst (v := (-1 : Int32)) dX12_sheet_10 (by decide) ?_
    refine AW.iconst (v := (2 : Int32)) dX12_sheet_11 (by decide) ?_
    obtain ⟨v2, gv2, hf⟩ := ob_split hf
    refine TW.invs (as := [.int p2, .int (-1 : Int32), .int (2 : Int32)]) (rest := []) stX12_133 dX12_sheet_12 rfl rfl (Nat.le_of_ble_eq_true rfl) (c_X12_in hs gv2 ?_)
    show AW G mX12_sheet (d + 1) 0 0 K 15 [some (.ref 89), some (.int p1), some (.int p2), some (.int p3), none] [.int v2] (I, J, ρ)
    refine AW.if_eq (tgt := 29) dX12_sheet_15 (by decide) (fun hc => ?_) (fun hc => ?_)
    · have hf := (if_pos hc).symm.trans hf
      refine AW.bipush (v := (-2 : Int32)) dX12_sheet_29 (by decide) ?_
      obtain rfl := Option.some.inj hf
      exact AW.iret (st := []) dX12_sheet_31 rfl hK
    · have hf := (if_neg hc).symm.trans hf
      refine AW.iload_n dX12_sheet_18 rfl ?_
      refine AW.iconst (v := (-1 : Int32)) dX12_sheet_19 (by decide) ?_
      obtain ⟨j3, gj3, hf⟩ := ob_split hf
      have Kj3 : scase j3 (fun r => K (r.1, J, ρ) (some (.int r.2))) (fun j3 => AW G mX12_sheet (d + 1) 0 0 K 32 [some (.ref 89), some (.int p1), some (.int p2), some (.int p3), none] [] (I, J, ρ)) := by
        rcases j3 with r | j3
        · obtain rfl := Option.some.inj hf; exact hK
        · show AW G mX12_sheet (d + 1) 0 0 K 32 [some (.ref 89), some (.int p1), some (.int p2), some (.int p3), none] [] (I, J, ρ)
          refine AW.iload_n dX12_sheet_32 rfl ?_
          refine AW.iconst (v := (-1 : Int32)) dX12_sheet_33 (by decide) ?_
          obtain ⟨j4, gj4, hf⟩ := ob_split hf
          have Kj4 : scase j4 (fun r => K (r.1, J, ρ) (some (.int r.2))) (fun j4 => AW G mX12_sheet (d + 1) 0 0 K 44 [some (.ref 89), some (.int p1), some (.int p2), some (.int p3), none] [] (I, J, ρ)) := by
            rcases j4 with r | j4
            · obtain rfl := Option.some.inj hf; exact hK
            · show AW G mX12_sheet (d + 1) 0 0 K 44 [some (.ref 89), some (.int p1), some (.int p2), some (.int p3), none] [] (I, J, ρ)
              refine AW.aload_n dX12_sheet_44 rfl ?_
              refine TW.getR fX12_77_12 hs.k89 (rf_some hs.r89_34) dX12_sheet_45 ?_
              refine AW.iload_n dX12_sheet_48 rfl ?_
              refine AW.iload_n dX12_sheet_49 rfl ?_
              obtain ⟨h5, hf⟩ := gd_split hf
              refine TW.iast hs.k107 h5 dX12_sheet_50 ?_
              show AW G mX12_sheet (d + 1) 0 0 K 51 [some (.ref 89), some (.int p1), some (.int p2), some (.int p3), none] [] ((u2 I 107 (tn p1) p2), J, ρ)
              refine AW.aload_n dX12_sheet_51 rfl ?_
              refine TW.getR fX12_80_12 hs.k89 (rf_some hs.r89_35) dX12_sheet_52 ?_
              refine AW.iload_n dX12_sheet_55 rfl ?_
              refine AW.iload_n dX12_sheet_56 rfl ?_
              refine AW.iconst (v := (-1 : Int32)) dX12_sheet_57 (by decide) ?_
              obtain ⟨j6, gj6, hf⟩ := ob_split hf
              have Kj6 : AW G mX12_sheet (d + 1) 0 0 K 66 [some (.ref 89), some (.int p1), none, none, none] [.int j6, .int p1, .ref 108] ((u2 I 107 (tn p1) p2), J, ρ) := by
                obtain ⟨h7, hf⟩ := gd_split hf
                refine TW.iast hs.k108 h7 dX12_sheet_66 ?_
                show AW G mX12_sheet (d + 1) 0 0 K 67 [some (.ref 89), some (.int p1), none, none, none] [] ((u2 (u2 I 107 (tn p1) p2) 108 (tn p1) j6), J, ρ)
                refine AW.iconst (v := (0 : Int32)) dX12_sheet_67 (by decide) ?_
                refine AW.istore (ls' := [some (.ref 89), some (.int p1), none, none, some (.int (0 : Int32))]) dX12_sheet_68 (Nat.le_of_ble_eq_true rfl) rfl ?_
                obtain ⟨j11, gj11, hf⟩ := ob_split hf
                refine AW.weak _ (by exact (And.intro rfl (And.intro rfl (And.intro rfl trivial)))) (l_X12_sheet_70 hs N (u2 (u2 I 107 (tn p1) p2) 108 (tn p1) j6) (0 : Int32) gj11 ?_)
                show AW G mX12_sheet (d + 1) 0 0 K 96 [none, none, none, none, none] [] (j11, J, ρ)
                refine AW.iconst (v := (1 : Int32)) dX12_sheet_96 (by decide) ?_
                obtain rfl := Option.some.inj hf
                exact AW.iret (st := []) dX12_sheet_97 rfl hK
              clear hf; have hf := gj6; clear gj6
              refine AW.icmp_ne (tgt := 65) dX12_sheet_58 (by decide) (fun hc => ?_) (fun hc => ?_)
              · have hf := (if_neg hc).symm.trans hf
                refine AW.iload_n dX12_sheet_65 rfl ?_
                obtain rfl := Option.some.inj hf
                exact AW.weak _ (by exact (And.intro rfl (And.intro rfl trivial))) Kj6
              · have hf := (if_pos hc).symm.trans hf
                refine AW.iconst (v := (0 : Int32)) dX12_sheet_61 (by decide) ?_
                refine AW.goto (tgt := 66) dX12_sheet_62 (by decide) ?_
                obtain rfl := Option.some.inj hf
                exact AW.weak _ (by exact (And.intro rfl (And.intro rfl trivial))) Kj6
          clear hf; have hf := gj4; clear gj4
          refine AW.icmp_eq (tgt := 44) dX12_sheet_34 (by decide) (fun hc => ?_) (fun hc => ?_)
          · have hf := (if_pos hc).symm.trans hf
            obtain rfl := Option.some.inj hf
            exact AW.weak _ (by exact (And.intro rfl (And.intro rfl (And.intro rfl (And.intro rfl trivial))))) Kj4
          · have hf := (if_neg hc).symm.trans hf
            refine AW.iload_n dX12_sheet_37 rfl ?_
            refine AW.if_ge (tgt := 44) dX12_sheet_38 (by decide) (fun hc => ?_) (fun hc => ?_)
            · have hf := (if_pos hc).symm.trans hf
              obtain rfl := Option.some.inj hf
              exact AW.weak _ (by exact (And.intro rfl (And.intro rfl (And.intro rfl (And.intro rfl trivial))))) Kj4
            · have hf := (if_neg hc).symm.trans hf
              refine AW.bipush (v := (-14 : Int32)) dX12_sheet_41 (by decide) ?_
              obtain rfl := Option.some.inj hf
              exact AW.iret (st := []) dX12_sheet_43 rfl Kj4
      clear hf; have hf := gj3; clear gj3
      refine AW.icmp_eq (tgt := 32) dX12_sheet_20 (by decide) (fun hc => ?_) (fun hc => ?_)
      · have hf := (if_pos hc).symm.trans hf
        obtain rfl := Option.some.inj hf
        exact AW.weak _ (by exact (And.intro rfl (And.intro rfl (And.intro rfl (And.intro rfl trivial))))) Kj3
      · have hf := (if_neg hc).symm.trans hf
        refine AW.iload_n dX12_sheet_23 rfl ?_
        refine AW.bipush (v := (40 : Int32)) dX12_sheet_24 (by decide) ?_
        refine AW.icmp_le (tgt := 32) dX12_sheet_26 (by decide) (fun hc => ?_) (fun hc => ?_)
        · have hf := (if_pos hc).symm.trans hf
          obtain rfl := Option.some.inj hf
          exact AW.weak _ (by exact (And.intro rfl (And.intro rfl (And.intro rfl (And.intro rfl trivial))))) Kj3
        · have hf := (if_neg hc).symm.trans hf
          refine AW.bipush (v := (-2 : Int32)) dX12_sheet_29 (by decide) ?_
          obtain rfl := Option.some.inj hf
          exact AW.iret (st := []) dX12_sheet_31 rfl Kj3
def f_X12_cell (N : Nat) (ρ : Rh) (I : Nat → Nat → Int32) (J : Nat → Nat → Int64) (p1 : Int32) (p2 : Int32) (p3 : Int32) : Option ((Nat → Nat → Int32) × Int32) := (Option.bind (f_X12_in N ρ I J p1 (0 : Int32) (3 : Int32)) fun v1 => (if (v1 = (0 : Int32)) then some (I, (-2 : Int32)) else (if ¬ (p1 < 0 ∨ 4 ≤ tn p1) then (if ((I 107 (tn p1)) = (-1 : Int32)) then some (I, (-11 : Int32)) else (if ¬ (p1 < 0 ∨ 4 ≤ tn p1) then (Option.bind (f_X12_in N ρ I J p2 (0 : Int32) ((I 108 (tn p1)) - (1 : Int32))) fun v4 => (if (v4 = (0 : Int32)) then some (I, (-12 : Int32)) else (if ¬ (p1 < 0 ∨ 4 ≤ tn p1) then (((if ((I 107 (tn p1)) = (0 : Int32)) then some (p3.toInt8.toInt32) else (if ¬ (p1 < 0 ∨ 4 ≤ tn p1) then (if ((I 107 (tn p1)) = (1 : Int32)) then some (p3.toInt16.toInt32) else some p3) else none)) : Option (Int32)).bind fun j7 => (if ¬ ((((40 : Int32) * p1) + p2) < 0 ∨ 160 ≤ tn (((40 : Int32) * p1) + p2)) then some ((u2 I 109 (tn (((40 : Int32) * p1) + p2)) j7), (1 : Int32)) else none)) else none))) else none)) else none)))
theorem c_X12_cell {G : Gd} {d N : Nat} {K : Ah → Option Value → Prop} {ρ : Rh} {I : Nat → Nat → Int32} {J : Nat → Nat → Int64} {p1 : Int32} {p2 : Int32} {p3 : Int32} {o : (Nat → Nat → Int32) × Int32} (hs : Sh ρ) (hf : f_X12_cell N ρ I J p1 p2 p3 = some o) (hK : K (o.1, J, ρ) (some (.int o.2))) : AM G (d + 1) 0 0 mX12_cell [.ref 89, .int p1, .int p2, .int p3] (I, J, ρ) K := by
  unfold f_X12_cell at hf
  refine AM.intro okX12_cell.2.2.2.1 (Nat.le_of_ble_eq_true rfl) [some (.ref 89), some (.int p1), some (.int p2), some (.int p3)] rfl ?_
  refine AW.iload_n dX12_cell_0 rfl ?_
  refine AW.iconst (v := (0 : Int32)) dX12_cell_1 (by decide) ?_
  refine AW.iconst (v := (3 : Int32)) dX12_cell_2 (by decide) ?_
  obtain ⟨v1, gv1, hf⟩ := ob_split hf
  refine TW.invs (as := [.int p1, .int (0 : Int32), .int (3 : Int32)]) (rest := []) stX12_133 dX12_cell_3 rfl rfl (Nat.le_of_ble_eq_true rfl) (c_X12_in hs gv1 ?_)
  show AW G mX12_cell (d + 1) 0 0 K 6 [some (.ref 89), some (.int p1), some (.int p2), some (.int p3)] [.int v1] (I, J, ρ)
  refine AW.if_ne (tgt := 12) dX12_cell_6 (by decide) (fun hc => ?_) (fun hc => ?_)
  · have hf := (if_neg hc).symm.trans hf
    refine AW.aload_n dX12_cell_12 rfl ?_
    refine TW.getR fX12_77_12 hs.k89 (rf_some hs.r89_34) dX12_cell_13 ?_
    refine AW.iload_n dX12_cell_16 rfl ?_
    obtain ⟨h2, hf⟩ := gd_split hf
    refine TW.iald (x := (I 107 (tn p1))) hs.k107 h2 rfl dX12_cell_17 ?_
    refine AW.iconst (v := (-1 : Int32)) dX12_cell_18 (by decide) ?_
    refine AW.icmp_ne (tgt := 25) dX12_cell_19 (by decide) (fun hc => ?_) (fun hc => ?_)
    · have hf := (if_neg hc).symm.trans hf
      refine AW.iload_n dX12_cell_25 rfl ?_
      refine AW.iconst (v := (0 : Int32)) dX12_cell_26 (by decide) ?_
      refine AW.aload_n dX12_cell_27 rfl ?_
      refine TW.getR fX12_80_12 hs.k89 (rf_some hs.r89_35) dX12_cell_28 ?_
      refine AW.iload_n dX12_cell_31 rfl ?_
      obtain ⟨h3, hf⟩ := gd_split hf
      refine TW.iald (x := (I 108 (tn p1))) hs.k108 h3 rfl dX12_cell_32 ?_
      refine AW.iconst (v := (1 : Int32)) dX12_cell_33 (by decide) ?_
      refine AW.isub dX12_cell_34 ?_
      obtain ⟨v4, gv4, hf⟩ := ob_split hf
      refine TW.invs (as := [.int p2, .int (0 : Int32), .int ((I 108 (tn p1)) - (1 : Int32))]) (rest := []) stX12_133 dX12_cell_35 rfl rfl (Nat.le_of_ble_eq_true rfl) (c_X12_in hs gv4 ?_)
      show AW G mX12_cell (d + 1) 0 0 K 38 [some (.ref 89), some (.int p1), some (.int p2), some (.int p3)] [.int v4] (I, J, ρ)
      refine AW.if_ne (tgt := 44) dX12_cell_38 (by decide) (fun hc => ?_) (fun hc => ?_)
      · have hf := (if_neg hc).symm.trans hf
        refine AW.aload_n dX12_cell_44 rfl ?_
        refine TW.getR fX12_83_12 hs.k89 (rf_some hs.r89_36) dX12_cell_45 ?_
        refine AW.bipush (v := (40 : Int32)) dX12_cell_48 (by decide) ?_
        refine AW.iload_n dX12_cell_50 rfl ?_
        refine AW.imul dX12_cell_51 ?_
        refine AW.iload_n dX12_cell_52 rfl ?_
        refine AW.iadd dX12_cell_53 ?_
        refine AW.aload_n dX12_cell_54 rfl ?_
        refine TW.getR fX12_77_12 hs.k89 (rf_some hs.r89_34) dX12_cell_55 ?_
        refine AW.iload_n dX12_cell_58 rfl ?_
        obtain ⟨h5, hf⟩ := gd_split hf
        refine TW.iald (x := (I 107 (tn p1))) hs.k107 h5 rfl dX12_cell_59 ?_
        obtain ⟨j7, gj7, hf⟩ := ob_split hf
        have Kj7 : AW G mX12_cell (d + 1) 0 0 K 84 [none, none, none, none] [.int j7, .int (((40 : Int32) * p1) + p2), .ref 109] (I, J, ρ) := by
          obtain ⟨h8, hf⟩ := gd_split hf
          refine TW.iast hs.k109 h8 dX12_cell_84 ?_
          show AW G mX12_cell (d + 1) 0 0 K 85 [none, none, none, none] [] ((u2 I 109 (tn (((40 : Int32) * p1) + p2)) j7), J, ρ)
          refine AW.iconst (v := (1 : Int32)) dX12_cell_85 (by decide) ?_
          obtain rfl := Option.some.inj hf
          exact AW.iret (st := []) dX12_cell_86 rfl hK
        clear hf; have hf := gj7; clear gj7
        refine AW.if_ne (tgt := 68) dX12_cell_60 (by decide) (fun hc => ?_) (fun hc => ?_)
        · have hf := (if_neg hc).symm.trans hf
          refine AW.aload_n dX12_cell_68 rfl ?_
          refine TW.getR fX12_77_12 hs.k89 (rf_some hs.r89_34) dX12_cell_69 ?_
          refine AW.iload_n dX12_cell_72 rfl ?_
          obtain ⟨h6, hf⟩ := gd_split hf
          refine TW.iald (x := (I 107 (tn p1))) hs.k107 h6 rfl dX12_cell_73 ?_
          refine AW.iconst (v := (1 : Int32)) dX12_cell_74 (by decide) ?_
          refine AW.icmp_ne (tgt := 83) dX12_cell_75 (by decide) (fun hc => ?_) (fun hc => ?_)
          · have hf := (if_neg hc).symm.trans hf
            refine AW.iload_n dX12_cell_83 rfl ?_
            obtain rfl := Option.some.inj hf
            exact AW.weak _ (by exact trivial) Kj7
          · have hf := (if_pos hc).symm.trans hf
            refine AW.iload_n dX12_cell_78 rfl ?_
            refine AW.i2s dX12_cell_79 ?_
            refine AW.goto (tgt := 84) dX12_cell_80 (by decide) ?_
            obtain rfl := Option.some.inj hf
            exact AW.weak _ (by exact trivial) Kj7
        · have hf := (if_pos hc).symm.trans hf
          refine AW.iload_n dX12_cell_63 rfl ?_
          refine AW.i2b dX12_cell_64 ?_
          refine AW.goto (tgt := 84) dX12_cell_65 (by decide) ?_
          obtain rfl := Option.some.inj hf
          exact AW.weak _ (by exact trivial) Kj7
      · have hf := (if_pos hc).symm.trans hf
        refine AW.bipush (v := (-12 : Int32)) dX12_cell_41 (by decide) ?_
        obtain rfl := Option.some.inj hf
        exact AW.iret (st := []) dX12_cell_43 rfl hK
    · have hf := (if_pos hc).symm.trans hf
      refine AW.bipush (v := (-11 : Int32)) dX12_cell_22 (by decide) ?_
      obtain rfl := Option.some.inj hf
      exact AW.iret (st := []) dX12_cell_24 rfl hK
  · have hf := (if_pos hc).symm.trans hf
    refine AW.bipush (v := (-2 : Int32)) dX12_cell_9 (by decide) ?_
    obtain rfl := Option.some.inj hf
    exact AW.iret (st := []) dX12_cell_11 rfl hK
def f_X12_copy_147 (N : Nat) (J : Nat → Nat → Int64) (ρ : Rh) (p5 : Int32) (c12 : Int32) (c13 : Int32) : Nat → (Nat → Nat → Int32) → Int32 → Option ((Nat → Nat → Int32))
  | 0, _, _ => none
  | n + 1, I11, i14 => (if (p5 ≤ i14) then some I11 else (((if (c13 ≤ c12) then some i14 else some ((p5 - (1 : Int32)) - i14)) : Option (Int32)).bind fun j15 => (if ¬ ((c12 + j15) < 0 ∨ 160 ≤ tn (c12 + j15)) then (if ¬ ((c13 + j15) < 0 ∨ 160 ≤ tn (c13 + j15)) then f_X12_copy_147 N J ρ p5 c12 c13 n (u2 I11 109 (tn (c13 + j15)) (I11 109 (tn (c12 + j15)))) (i14 + (1 : Int32)) else none) else none)))
theorem l_X12_copy_147 {G : Gd} {d N : Nat} {K : Ah → Option Value → Prop} {J : Nat → Nat → Int64} {ρ : Rh} {p5 : Int32} {c12 : Int32} {c13 : Int32} (hs : Sh ρ) {o : (Nat → Nat → Int32)} : ∀ (n : Nat) (I11 : Nat → Nat → Int32) (i14 : Int32), f_X12_copy_147 N J ρ p5 c12 c13 n I11 i14 = some o → AW G mX12_copy (d + 1) 0 0 K 201 [none, none, none, none, none, some (.int p5), none, none, none, none] [] (o, J, ρ) → AW G mX12_copy (d + 1) 0 0 K 147 [some (.ref 89), none, none, none, none, some (.int p5), some (.int c12), some (.int c13), some (.int i14), none] [] (I11, J, ρ) := by
  intro n
  induction n with
  | zero => intro I11 i14 hf hE; rw [f_X12_copy_147.eq_1] at hf; cases hf
  | succ n ih =>
    intro I11 i14 hf hE
    rw [f_X12_copy_147.eq_2] at hf
    refine AW.iload dX12_copy_147 rfl ?_
    refine AW.iload dX12_copy_149 rfl ?_
    refine AW.icmp_ge (tgt := 201) dX12_copy_151 (by decide) (fun hc => ?_) (fun hc => ?_)
    · have hf := (if_pos hc).symm.trans hf
      obtain rfl := Option.some.inj hf
      exact AW.weak _ (by exact (And.intro rfl trivial)) hE
    · have hf := (if_neg hc).symm.trans hf
      refine AW.iload dX12_copy_154 rfl ?_
      refine AW.iload dX12_copy_156 rfl ?_
      obtain ⟨j15, gj15, hf⟩ := ob_split hf
      have Kj15 : AW G mX12_copy (d + 1) 0 0 K 173 [some (.ref 89), none, none, none, none, some (.int p5), some (.int c12), some (.int c13), some (.int i14), none] [.int j15] (I11, J, ρ) := by
        refine AW.istore (ls' := [some (.ref 89), none, none, none, none, some (.int p5), some (.int c12), some (.int c13), some (.int i14), some (.int j15)]) dX12_copy_173 (Nat.le_of_ble_eq_true rfl) rfl ?_
        refine AW.aload_n dX12_copy_175 rfl ?_
        refine TW.getR fX12_83_12 hs.k89 (rf_some hs.r89_36) dX12_copy_176 ?_
        refine AW.iload dX12_copy_179 rfl ?_
        refine AW.iload dX12_copy_181 rfl ?_
        refine AW.iadd dX12_copy_183 ?_
        refine AW.aload_n dX12_copy_184 rfl ?_
        refine TW.getR fX12_83_12 hs.k89 (rf_some hs.r89_36) dX12_copy_185 ?_
        refine AW.iload dX12_copy_188 rfl ?_
        refine AW.iload dX12_copy_190 rfl ?_
        refine AW.iadd dX12_copy_192 ?_
        obtain ⟨h16, hf⟩ := gd_split hf
        refine TW.iald (x := (I11 109 (tn (c12 + j15)))) hs.k109 h16 rfl dX12_copy_193 ?_
        obtain ⟨h17, hf⟩ := gd_split hf
        refine TW.iast hs.k109 h17 dX12_copy_194 ?_
        show AW G mX12_copy (d + 1) 0 0 K 195 [some (.ref 89), none, none, none, none, some (.int p5), some (.int c12), some (.int c13), some (.int i14), some (.int j15)] [] ((u2 I11 109 (tn (c13 + j15)) (I11 109 (tn (c12 + j15)))), J, ρ)
        refine AW.iinc (v := (i14 + (1 : Int32))) (ls' := [some (.ref 89), none, none, none, none, some (.int p5), some (.int c12), some (.int c13), some (.int (i14 + (1 : Int32))), some (.int j15)]) dX12_copy_195 rfl rfl (Nat.le_of_ble_eq_true rfl) rfl ?_
        refine AW.goto (tgt := 147) dX12_copy_198 (by decide) ?_
        exact AW.weak _ (by exact (And.intro rfl (And.intro rfl (And.intro rfl (And.intro rfl (And.intro rfl trivial)))))) (ih (u2 I11 109 (tn (c13 + j15)) (I11 109 (tn (c12 + j15)))) (i14 + (1 : Int32)) hf hE)
      clear hf; have hf := gj15; clear gj15
      refine AW.icmp_ge (tgt := 171) dX12_copy_158 (by decide) (fun hc => ?_) (fun hc => ?_)
      · have hf := (if_pos hc).symm.trans hf
        refine AW.iload dX12_copy_171 rfl ?_
        obtain rfl := Option.some.inj hf
        exact AW.weak _ (by exact (And.intro rfl (And.intro rfl (And.intro rfl (And.intro rfl (And.intro rfl trivial)))))) Kj15
      · have hf := (if_neg hc).symm.trans hf
        refine AW.iload dX12_copy_161 rfl ?_
        refine AW.iconst (v := (1 : Int32)) dX12_copy_163 (by decide) ?_
        refine AW.isub dX12_copy_164 ?_
        refine AW.iload dX12_copy_165 rfl ?_
        refine AW.isub dX12_copy_167 ?_
        refine AW.goto (tgt := 173) dX12_copy_168 (by decide) ?_
        obtain rfl := Option.some.inj hf
        exact AW.weak _ (by exact (And.intro rfl (And.intro rfl (And.intro rfl (And.intro rfl (And.intro rfl trivial)))))) Kj15
def f_X12_copy (N : Nat) (ρ : Rh) (I : Nat → Nat → Int32) (J : Nat → Nat → Int64) (p1 : Int32) (p2 : Int32) (p3 : Int32) (p4 : Int32) (p5 : Int32) : Option ((Nat → Nat → Int32) × Int32) := (Option.bind (f_X12_in N ρ I J p1 (0 : Int32) (3 : Int32)) fun v1 => (if (v1 = (0 : Int32)) then some (I, (-2 : Int32)) else (Option.bind (f_X12_in N ρ I J p3 (0 : Int32) (3 : Int32)) fun v2 => (if (v2 = (0 : Int32)) then some (I, (-2 : Int32)) else (if ¬ (p1 < 0 ∨ 4 ≤ tn p1) then (if ((I 107 (tn p1)) = (-1 : Int32)) then some (I, (-11 : Int32)) else (if ¬ (p3 < 0 ∨ 4 ≤ tn p3) then (if ((I 107 (tn p3)) = (-1 : Int32)) then some (I, (-11 : Int32)) else (if ¬ (p1 < 0 ∨ 4 ≤ tn p1) then (if ¬ (p3 < 0 ∨ 4 ≤ tn p3) then (if ((I 107 (tn p1)) = (I 107 (tn p3))) then (if (p5 < (0 : Int32)) then some (I, (-12 : Int32)) else (if (p2 < (0 : Int32)) then some (I, (-12 : Int32)) else (if (p4 < (0 : Int32)) then some (I, (-12 : Int32)) else (if ¬ (p1 < 0 ∨ 4 ≤ tn p1) then (if ((I 108 (tn p1)) < p2) then some (I, (-12 : Int32)) else (if ¬ (p3 < 0 ∨ 4 ≤ tn p3) then (if ((I 108 (tn p3)) < p4) then some (I, (-12 : Int32)) else (if ¬ (p1 < 0 ∨ 4 ≤ tn p1) then (if (((I 108 (tn p1)) - p2) < p5) then some (I, (-12 : Int32)) else (if ¬ (p3 < 0 ∨ 4 ≤ tn p3) then (if (p5 ≤ ((I 108 (tn p3)) - p4)) then ((f_X12_copy_147 N J ρ p5 (((40 : Int32) * p1) + p2) (((40 : Int32) * p3) + p4) N I (0 : Int32)).bind fun j18 => some (j18, p5)) else some (I, (-12 : Int32))) else none)) else none)) else none)) else none)))) else some (I, (-13 : Int32))) else none) else none)) else none)) else none)))))
theorem c_X12_copy {G : Gd} {d N : Nat} {K : Ah → Option Value → Prop} {ρ : Rh} {I : Nat → Nat → Int32} {J : Nat → Nat → Int64} {p1 : Int32} {p2 : Int32} {p3 : Int32} {p4 : Int32} {p5 : Int32} {o : (Nat → Nat → Int32) × Int32} (hs : Sh ρ) (hf : f_X12_copy N ρ I J p1 p2 p3 p4 p5 = some o) (hK : K (o.1, J, ρ) (some (.int o.2))) : AM G (d + 1) 0 0 mX12_copy [.ref 89, .int p1, .int p2, .int p3, .int p4, .int p5] (I, J, ρ) K := by
  unfold f_X12_copy at hf
  refine AM.intro okX12_copy.2.2.2.1 (Nat.le_of_ble_eq_true rfl) [some (.ref 89), some (.int p1), some (.int p2), some (.int p3), some (.int p4), some (.int p5), none, none, none, none] rfl ?_
  refine AW.iload_n dX12_copy_0 rfl ?_
  refine AW.iconst (v := (0 : Int32)) dX12_copy_1 (by decide) ?_
  refine AW.iconst (v := (3 : Int32)) dX12_copy_2 (by decide) ?_
  obtain ⟨v1, gv1, hf⟩ := ob_split hf
  refine TW.invs (as := [.int p1, .int (0 : Int32), .int (3 : Int32)]) (rest := []) stX12_133 dX12_copy_3 rfl rfl (Nat.le_of_ble_eq_true rfl) (c_X12_in hs gv1 ?_)
  show AW G mX12_copy (d + 1) 0 0 K 6 [some (.ref 89), some (.int p1), some (.int p2), some (.int p3), some (.int p4), some (.int p5), none, none, none, none] [.int v1] (I, J, ρ)
  refine AW.if_eq (tgt := 18) dX12_copy_6 (by decide) (fun hc => ?_) (fun hc => ?_)
  · have hf := (if_pos hc).symm.trans hf
    refine AW.bipush (v := (-2 : Int32)) dX12_copy_18 (by decide) ?_
    obtain rfl := Option.some.inj hf
    exact AW.iret (st := []) dX12_copy_20 rfl hK
  · have hf := (if_neg hc).symm.trans hf
    refine AW.iload_n dX12_copy_9 rfl ?_
    refine AW.iconst (v := (0 : Int32)) dX12_copy_10 (by decide) ?_
    refine AW.iconst (v := (3 : Int32)) dX12_copy_11 (by decide) ?_
    obtain ⟨v2, gv2, hf⟩ := ob_split hf
    refine TW.invs (as := [.int p3, .int (0 : Int32), .int (3 : Int32)]) (rest := []) stX12_133 dX12_copy_12 rfl rfl (Nat.le_of_ble_eq_true rfl) (c_X12_in hs gv2 ?_)
    show AW G mX12_copy (d + 1) 0 0 K 15 [some (.ref 89), some (.int p1), some (.int p2), some (.int p3), some (.int p4), some (.int p5), none, none, none, none] [.int v2] (I, J, ρ)
    refine AW.if_ne (tgt := 21) dX12_copy_15 (by decide) (fun hc => ?_) (fun hc => ?_)
    · have hf := (if_neg hc).symm.trans hf
      refine AW.aload_n dX12_copy_21 rfl ?_
      refine TW.getR fX12_77_12 hs.k89 (rf_some hs.r89_34) dX12_copy_22 ?_
      refine AW.iload_n dX12_copy_25 rfl ?_
      obtain ⟨h3, hf⟩ := gd_split hf
      refine TW.iald (x := (I 107 (tn p1))) hs.k107 h3 rfl dX12_copy_26 ?_
      refine AW.iconst (v := (-1 : Int32)) dX12_copy_27 (by decide) ?_
      refine AW.icmp_eq (tgt := 41) dX12_copy_28 (by decide) (fun hc => ?_) (fun hc => ?_)
      · have hf := (if_pos hc).symm.trans hf
        refine AW.bipush (v := (-11 : Int32)) dX12_copy_41 (by decide) ?_
        obtain rfl := Option.some.inj hf
        exact AW.iret (st := []) dX12_copy_43 rfl hK
      · have hf := (if_neg hc).symm.trans hf
        refine AW.aload_n dX12_copy_31 rfl ?_
        refine TW.getR fX12_77_12 hs.k89 (rf_some hs.r89_34) dX12_copy_32 ?_
        refine AW.iload_n dX12_copy_35 rfl ?_
        obtain ⟨h4, hf⟩ := gd_split hf
        refine TW.iald (x := (I 107 (tn p3))) hs.k107 h4 rfl dX12_copy_36 ?_
        refine AW.iconst (v := (-1 : Int32)) dX12_copy_37 (by decide) ?_
        refine AW.icmp_ne (tgt := 44) dX12_copy_38 (by decide) (fun hc => ?_) (fun hc => ?_)
        · have hf := (if_neg hc).symm.trans hf
          refine AW.aload_n dX12_copy_44 rfl ?_
          refine TW.getR fX12_77_12 hs.k89 (rf_some hs.r89_34) dX12_copy_45 ?_
          refine AW.iload_n dX12_copy_48 rfl ?_
          obtain ⟨h5, hf⟩ := gd_split hf
          refine TW.iald (x := (I 107 (tn p1))) hs.k107 h5 rfl dX12_copy_49 ?_
          refine AW.aload_n dX12_copy_50 rfl ?_
          refine TW.getR fX12_77_12 hs.k89 (rf_some hs.r89_34) dX12_copy_51 ?_
          refine AW.iload_n dX12_copy_54 rfl ?_
          obtain ⟨h6, hf⟩ := gd_split hf
          refine TW.iald (x := (I 107 (tn p3))) hs.k107 h6 rfl dX12_copy_55 ?_
          refine AW.icmp_eq (tgt := 62) dX12_copy_56 (by decide) (fun hc => ?_) (fun hc => ?_)
          · have hf := (if_pos hc).symm.trans hf
            refine AW.iload dX12_copy_62 rfl ?_
            refine AW.if_lt (tgt := 124) dX12_copy_64 (by decide) (fun hc => ?_) (fun hc => ?_)
            · have hf := (if_pos hc).symm.trans hf
              refine AW.bipush (v := (-12 : Int32)) dX12_copy_124 (by decide) ?_
              obtain rfl := Option.some.inj hf
              exact AW.iret (st := []) dX12_copy_126 rfl hK
            · have hf := (if_neg hc).symm.trans hf
              refine AW.iload_n dX12_copy_67 rfl ?_
              refine AW.if_lt (tgt := 124) dX12_copy_68 (by decide) (fun hc => ?_) (fun hc => ?_)
              · have hf := (if_pos hc).symm.trans hf
                refine AW.bipush (v := (-12 : Int32)) dX12_copy_124 (by decide) ?_
                obtain rfl := Option.some.inj hf
                exact AW.iret (st := []) dX12_copy_126 rfl hK
              · have hf := (if_neg hc).symm.trans hf
                refine AW.iload dX12_copy_71 rfl ?_
                refine AW.if_lt (tgt := 124) dX12_copy_73 (by decide) (fun hc => ?_) (fun hc => ?_)
                · have hf := (if_pos hc).symm.trans hf
                  refine AW.bipush (v := (-12 : Int32)) dX12_copy_124 (by decide) ?_
                  obtain rfl := Option.some.inj hf
                  exact AW.iret (st := []) dX12_copy_126 rfl hK
                · have hf := (if_neg hc).symm.trans hf
                  refine AW.iload_n dX12_copy_76 rfl ?_
                  refine AW.aload_n dX12_copy_77 rfl ?_
                  refine TW.getR fX12_80_12 hs.k89 (rf_some hs.r89_35) dX12_copy_78 ?_
                  refine AW.iload_n dX12_copy_81 rfl ?_
                  obtain ⟨h7, hf⟩ := gd_split hf
                  refine TW.iald (x := (I 108 (tn p1))) hs.k108 h7 rfl dX12_copy_82 ?_
                  refine AW.icmp_gt (tgt := 124) dX12_copy_83 (by decide) (fun hc => ?_) (fun hc => ?_)
                  · have hf := (if_pos hc).symm.trans hf
                    refine AW.bipush (v := (-12 : Int32)) dX12_copy_124 (by decide) ?_
                    obtain rfl := Option.some.inj hf
                    exact AW.iret (st := []) dX12_copy_126 rfl hK
                  · have hf := (if_neg hc).symm.trans hf
                    refine AW.iload dX12_copy_86 rfl ?_
                    refine AW.aload_n dX12_copy_88 rfl ?_
                    refine TW.getR fX12_80_12 hs.k89 (rf_some hs.r89_35) dX12_copy_89 ?_
                    refine AW.iload_n dX12_copy_92 rfl ?_
                    obtain ⟨h8, hf⟩ := gd_split hf
                    refine TW.iald (x := (I 108 (tn p3))) hs.k108 h8 rfl dX12_copy_93 ?_
                    refine AW.icmp_gt (tgt := 124) dX12_copy_94 (by decide) (fun hc => ?_) (fun hc => ?_)
                    · have hf := (if_pos hc).symm.trans hf
                      refine AW.bipush (v := (-12 : Int32)) dX12_copy_124 (by decide) ?_
                      obtain rfl := Option.some.inj hf
                      exact AW.iret (st := []) dX12_copy_126 rfl hK
                    · have hf := (if_neg hc).symm.trans hf
                      refine AW.iload dX12_copy_97 rfl ?_
                      refine AW.aload_n dX12_copy_99 rfl ?_
                      refine TW.getR fX12_80_12 hs.k89 (rf_some hs.r89_35) dX12_copy_100 ?_
                      refine AW.iload_n dX12_copy_103 rfl ?_
                      obtain ⟨h9, hf⟩ := gd_split hf
                      refine TW.iald (x := (I 108 (tn p1))) hs.k108 h9 rfl dX12_copy_104 ?_
                      refine AW.iload_n dX12_copy_105 rfl ?_
                      refine AW.isub dX12_copy_106 ?_
                      refine AW.icmp_gt (tgt := 124) dX12_copy_107 (by decide) (fun hc => ?_) (fun hc => ?_)
                      · have hf := (if_pos hc).symm.trans hf
                        refine AW.bipush (v := (-12 : Int32)) dX12_copy_124 (by decide) ?_
                        obtain rfl := Option.some.inj hf
                        exact AW.iret (st := []) dX12_copy_126 rfl hK
                      · have hf := (if_neg hc).symm.trans hf
                        refine AW.iload dX12_copy_110 rfl ?_
                        refine AW.aload_n dX12_copy_112 rfl ?_
                        refine TW.getR fX12_80_12 hs.k89 (rf_some hs.r89_35) dX12_copy_113 ?_
                        refine AW.iload_n dX12_copy_116 rfl ?_
                        obtain ⟨h10, hf⟩ := gd_split hf
                        refine TW.iald (x := (I 108 (tn p3))) hs.k108 h10 rfl dX12_copy_117 ?_
                        refine AW.iload dX12_copy_118 rfl ?_
                        refine AW.isub dX12_copy_120 ?_
                        refine AW.icmp_le (tgt := 127) dX12_copy_121 (by decide) (fun hc => ?_) (fun hc => ?_)
                        · have hf := (if_pos hc).symm.trans hf
                          refine AW.bipush (v := (40 : Int32)) dX12_copy_127 (by decide) ?_
                          refine AW.iload_n dX12_copy_129 rfl ?_
                          refine AW.imul dX12_copy_130 ?_
                          refine AW.iload_n dX12_copy_131 rfl ?_
                          refine AW.iadd dX12_copy_132 ?_
                          refine AW.istore (ls' := [some (.ref 89), some (.int p1), some (.int p2), some (.int p3), some (.int p4), some (.int p5), some (.int (((40 : Int32) * p1) + p2)), none, none, none]) dX12_copy_133 (Nat.le_of_ble_eq_true rfl) rfl ?_
                          refine AW.bipush (v := (40 : Int32)) dX12_copy_135 (by decide) ?_
                          refine AW.iload_n dX12_copy_137 rfl ?_
                          refine AW.imul dX12_copy_138 ?_
                          refine AW.iload dX12_copy_139 rfl ?_
                          refine AW.iadd dX12_copy_141 ?_
                          refine AW.istore (ls' := [some (.ref 89), some (.int p1), some (.int p2), some (.int p3), some (.int p4), some (.int p5), some (.int (((40 : Int32) * p1) + p2)), some (.int (((40 : Int32) * p3) + p4)), none, none]) dX12_copy_142 (Nat.le_of_ble_eq_true rfl) rfl ?_
                          refine AW.iconst (v := (0 : Int32)) dX12_copy_144 (by decide) ?_
                          refine AW.istore (ls' := [some (.ref 89), some (.int p1), some (.int p2), some (.int p3), some (.int p4), some (.int p5), some (.int (((40 : Int32) * p1) + p2)), some (.int (((40 : Int32) * p3) + p4)), some (.int (0 : Int32)), none]) dX12_copy_145 (Nat.le_of_ble_eq_true rfl) rfl ?_
                          obtain ⟨j18, gj18, hf⟩ := ob_split hf
                          refine AW.weak _ (by exact (And.intro rfl (And.intro rfl (And.intro rfl (And.intro rfl (And.intro rfl trivial)))))) (l_X12_copy_147 hs N I (0 : Int32) gj18 ?_)
                          show AW G mX12_copy (d + 1) 0 0 K 201 [none, none, none, none, none, some (.int p5), none, none, none, none] [] (j18, J, ρ)
                          refine AW.iload dX12_copy_201 rfl ?_
                          obtain rfl := Option.some.inj hf
                          exact AW.iret (st := []) dX12_copy_203 rfl hK
                        · have hf := (if_neg hc).symm.trans hf
                          refine AW.bipush (v := (-12 : Int32)) dX12_copy_124 (by decide) ?_
                          obtain rfl := Option.some.inj hf
                          exact AW.iret (st := []) dX12_copy_126 rfl hK
          · have hf := (if_neg hc).symm.trans hf
            refine AW.bipush (v := (-13 : Int32)) dX12_copy_59 (by decide) ?_
            obtain rfl := Option.some.inj hf
            exact AW.iret (st := []) dX12_copy_61 rfl hK
        · have hf := (if_pos hc).symm.trans hf
          refine AW.bipush (v := (-11 : Int32)) dX12_copy_41 (by decide) ?_
          obtain rfl := Option.some.inj hf
          exact AW.iret (st := []) dX12_copy_43 rfl hK
    · have hf := (if_pos hc).symm.trans hf
      refine AW.bipush (v := (-2 : Int32)) dX12_copy_18 (by decide) ?_
      obtain rfl := Option.some.inj hf
      exact AW.iret (st := []) dX12_copy_20 rfl hK
