/-! ===== methods 13.class 8 ===== -/
def f_X11_isOfKind (N : Nat) (ρ : Rh) (I : Nat → Nat → Int32) (J : Nat → Nat → Int64) (p1 : Nat) (p2 : Int32) : Option (Int32) := (if p2 = (0 : Int32) then some (1 : Int32) else (if p2 = (1 : Int32) then (if isR (ρ.2.1 p1) then some (inst5 (ρ.2.1 p1).2) else none) else (if p2 = (2 : Int32) then (if isR (ρ.2.1 p1) then some (inst4 (ρ.2.1 p1).2) else none) else (if p2 = (3 : Int32) then (if isR (ρ.2.1 p1) then some (inst3 (ρ.2.1 p1).2) else none) else (if p2 = (4 : Int32) then (if isR (ρ.2.1 p1) then some (inst9 (ρ.2.1 p1).2) else none) else (if p2 = (5 : Int32) then (if isR (ρ.2.1 p1) then some (inst1 (ρ.2.1 p1).2) else none) else some (0 : Int32)))))))
theorem c_X11_isOfKind {G : Gd} {d N : Nat} {K : Ah → Option Value → Prop} {ρ : Rh} {I : Nat → Nat → Int32} {J : Nat → Nat → Int64} {p1 : Nat} {p2 : Int32} {o : Int32} (hs : Sh ρ) (hf : f_X11_isOfKind N ρ I J p1 p2 = some o) (hK : K (I, J, ρ) (some (.int o))) : AM G d 0 0 mX11_isOfKind [.ref p1, .int p2] (I, J, ρ) K := by
  unfold f_X11_isOfKind at hf
  refine AM.intro okX11_isOfKind.2.2.2.1 (Nat.le_of_ble_eq_true rfl) [some (.ref p1), some (.int p2)] rfl ?_
  refine AW.iload_n dX11_isOfKind_0 rfl ?_
  by_cases hc0 : p2 = (0 : Int32)
  · have hf := (if_pos hc0).symm.trans hf
    refine AW.swIn (tgt := 40) dX11_isOfKind_1 (by rw [hc0]; decide) (by rw [hc0]; decide) (by rw [hc0]; rfl) (by decide) ?_
    refine AW.iconst (v := (1 : Int32)) dX11_isOfKind_40 (by decide) ?_
    obtain rfl := Option.some.inj hf
    exact AW.zret (st := []) dX11_isOfKind_41 rfl (Or.inr rfl) hK
  have hf := (if_neg hc0).symm.trans hf
  by_cases hc1 : p2 = (1 : Int32)
  · have hf := (if_pos hc1).symm.trans hf
    refine AW.swIn (tgt := 42) dX11_isOfKind_1 (by rw [hc1]; decide) (by rw [hc1]; decide) (by rw [hc1]; rfl) (by decide) ?_
    refine AW.aload_n dX11_isOfKind_42 rfl ?_
    obtain ⟨h1, hf⟩ := gd_split hf
    refine TW.inst5 h1 clX11_270 dX11_isOfKind_43 ?_
    obtain rfl := Option.some.inj hf
    exact AW.zret (st := []) dX11_isOfKind_46 rfl (inst_z5 _) hK
  have hf := (if_neg hc1).symm.trans hf
  by_cases hc2 : p2 = (2 : Int32)
  · have hf := (if_pos hc2).symm.trans hf
    refine AW.swIn (tgt := 47) dX11_isOfKind_1 (by rw [hc2]; decide) (by rw [hc2]; decide) (by rw [hc2]; rfl) (by decide) ?_
    refine AW.aload_n dX11_isOfKind_47 rfl ?_
    obtain ⟨h2, hf⟩ := gd_split hf
    refine TW.inst4 h2 clX11_274 dX11_isOfKind_48 ?_
    obtain rfl := Option.some.inj hf
    exact AW.zret (st := []) dX11_isOfKind_51 rfl (inst_z4 _) hK
  have hf := (if_neg hc2).symm.trans hf
  by_cases hc3 : p2 = (3 : Int32)
  · have hf := (if_pos hc3).symm.trans hf
    refine AW.swIn (tgt := 52) dX11_isOfKind_1 (by rw [hc3]; decide) (by rw [hc3]; decide) (by rw [hc3]; rfl) (by decide) ?_
    refine AW.aload_n dX11_isOfKind_52 rfl ?_
    obtain ⟨h3, hf⟩ := gd_split hf
    refine TW.inst3 h3 clX11_277 dX11_isOfKind_53 ?_
    obtain rfl := Option.some.inj hf
    exact AW.zret (st := []) dX11_isOfKind_56 rfl (inst_z3 _) hK
  have hf := (if_neg hc3).symm.trans hf
  by_cases hc4 : p2 = (4 : Int32)
  · have hf := (if_pos hc4).symm.trans hf
    refine AW.swIn (tgt := 57) dX11_isOfKind_1 (by rw [hc4]; decide) (by rw [hc4]; decide) (by rw [hc4]; rfl) (by decide) ?_
    refine AW.aload_n dX11_isOfKind_57 rfl ?_
    obtain ⟨h4, hf⟩ := gd_split hf
    refine TW.inst9 h4 clX11_280 dX11_isOfKind_58 ?_
    obtain rfl := Option.some.inj hf
    exact AW.zret (st := []) dX11_isOfKind_61 rfl (inst_z9 _) hK
  have hf := (if_neg hc4).symm.trans hf
  by_cases hc5 : p2 = (5 : Int32)
  · have hf := (if_pos hc5).symm.trans hf
    refine AW.swIn (tgt := 62) dX11_isOfKind_1 (by rw [hc5]; decide) (by rw [hc5]; decide) (by rw [hc5]; rfl) (by decide) ?_
    refine AW.aload_n dX11_isOfKind_62 rfl ?_
    obtain ⟨h5, hf⟩ := gd_split hf
    refine TW.inst1 h5 clX11_285 dX11_isOfKind_63 ?_
    obtain rfl := Option.some.inj hf
    exact AW.zret (st := []) dX11_isOfKind_66 rfl (inst_z1 _) hK
  have hf := (if_neg hc5).symm.trans hf
  have KD : AW G mX11_isOfKind d 0 0 K 67 [some (.ref p1), some (.int p2)] [] (I, J, ρ) := by
    refine AW.iconst (v := (0 : Int32)) dX11_isOfKind_67 (by decide) ?_
    obtain rfl := Option.some.inj hf
    exact AW.zret (st := []) dX11_isOfKind_68 rfl (Or.inl rfl) hK
  have hc0 : ¬ (p2).toInt = 0 := fun q => hc0 (Int32.toInt_inj.mp q)
  have hc1 : ¬ (p2).toInt = 1 := fun q => hc1 (Int32.toInt_inj.mp q)
  have hc2 : ¬ (p2).toInt = 2 := fun q => hc2 (Int32.toInt_inj.mp q)
  have hc3 : ¬ (p2).toInt = 3 := fun q => hc3 (Int32.toInt_inj.mp q)
  have hc4 : ¬ (p2).toInt = 4 := fun q => hc4 (Int32.toInt_inj.mp q)
  have hc5 : ¬ (p2).toInt = 5 := fun q => hc5 (Int32.toInt_inj.mp q)
  exact AW.swOut dX11_isOfKind_1 (by omega) (by decide) KD
def f_X11_taken (N : Nat) (ρ : Rh) (I : Nat → Nat → Int32) (J : Nat → Nat → Int64) (p1 : Int32) (p2 : Int32) : Option (Int32) := (if (p2 < (0 : Int32)) then some (-2 : Int32) else (if (p2 ≤ (6 : Int32)) then (if (p1 < (0 : Int32)) then some (-12 : Int32) else (if (p1 < (16 : Int32)) then (if ((8 : Int32) ≤ p1) then (Option.bind (f_X11_ruleAt N ρ I J (p1 - (8 : Int32))) fun v3 => (ocase v3 (some (-11 : Int32)) (fun a4 => (Option.bind (f_X11_isOfKind N ρ I J a4 p2) fun v5 => (if (v5 = (0 : Int32)) then some (-13 : Int32) else some (p1 - (8 : Int32))))))) else (Option.bind (f_X11_isMan N ρ I J p1) fun v1 => (if (v1 = (0 : Int32)) then some (-11 : Int32) else (if (p2 = (6 : Int32)) then (if ¬ (p1 < 0 ∨ 8 ≤ tn p1) then some (I 43 (tn p1)) else none) else some (-13 : Int32))))) else some (-12 : Int32))) else some (-2 : Int32)))
theorem c_X11_taken {G : Gd} {d N : Nat} {K : Ah → Option Value → Prop} {ρ : Rh} {I : Nat → Nat → Int32} {J : Nat → Nat → Int64} {p1 : Int32} {p2 : Int32} {o : Int32} (hs : Sh ρ) (hf : f_X11_taken N ρ I J p1 p2 = some o) (hK : K (I, J, ρ) (some (.int o))) : AM G (d + 1) 0 0 mX11_taken [.ref 32, .int p1, .int p2] (I, J, ρ) K := by
  unfold f_X11_taken at hf
  refine AM.intro okX11_taken.2.2.2.1 (Nat.le_of_ble_eq_true rfl) [some (.ref 32), some (.int p1), some (.int p2), none] rfl ?_
  refine AW.iload_n dX11_taken_0 rfl ?_
  refine AW.if_lt (tgt := 10) dX11_taken_1 (by decide) (fun hc => ?_) (fun hc => ?_)
  · have hf := (if_pos hc).symm.trans hf
    refine AW.bipush (v := (-2 : Int32)) dX11_taken_10 (by decide) ?_
    obtain rfl := Option.some.inj hf
    exact AW.iret (st := []) dX11_taken_12 rfl hK
  · have hf := (if_neg hc).symm.trans hf
    refine AW.iload_n dX11_taken_4 rfl ?_
    refine AW.bipush (v := (6 : Int32)) dX11_taken_5 (by decide) ?_
    refine AW.icmp_le (tgt := 13) dX11_taken_7 (by decide) (fun hc => ?_) (fun hc => ?_)
    · have hf := (if_pos hc).symm.trans hf
      refine AW.iload_n dX11_taken_13 rfl ?_
      refine AW.if_lt (tgt := 23) dX11_taken_14 (by decide) (fun hc => ?_) (fun hc => ?_)
      · have hf := (if_pos hc).symm.trans hf
        refine AW.bipush (v := (-12 : Int32)) dX11_taken_23 (by decide) ?_
        obtain rfl := Option.some.inj hf
        exact AW.iret (st := []) dX11_taken_25 rfl hK
      · have hf := (if_neg hc).symm.trans hf
        refine AW.iload_n dX11_taken_17 rfl ?_
        refine AW.bipush (v := (16 : Int32)) dX11_taken_18 (by decide) ?_
        refine AW.icmp_lt (tgt := 26) dX11_taken_20 (by decide) (fun hc => ?_) (fun hc => ?_)
        · have hf := (if_pos hc).symm.trans hf
          refine AW.iload_n dX11_taken_26 rfl ?_
          refine AW.bipush (v := (8 : Int32)) dX11_taken_27 (by decide) ?_
          refine AW.icmp_ge (tgt := 64) dX11_taken_29 (by decide) (fun hc => ?_) (fun hc => ?_)
          · have hf := (if_pos hc).symm.trans hf
            refine AW.aload_n dX11_taken_64 rfl ?_
            refine AW.iload_n dX11_taken_65 rfl ?_
            refine AW.bipush (v := (8 : Int32)) dX11_taken_66 (by decide) ?_
            refine AW.isub dX11_taken_68 ?_
            obtain ⟨v3, gv3, hf⟩ := ob_split hf
            refine TW.invv (as := [.int (p1 - (8 : Int32))]) (rest := []) viX11_133_11 hs.k32 dX11_taken_69 rfl rfl (Nat.le_of_ble_eq_true rfl) (c_X11_ruleAt hs gv3 ?_)
            show AW G mX11_taken (d + 1) 0 0 K 72 [some (.ref 32), some (.int p1), some (.int p2), none] [va_rf v3] (I, J, ρ)
            refine AW.astore_nq (ls' := [some (.ref 32), some (.int p1), some (.int p2), some (va_rf v3)]) dX11_taken_72 (Nat.le_of_ble_eq_true rfl) rfl ?_
            refine AW.aload_nq dX11_taken_73 rfl ?_
            refine AW.ifnonnull (tgt := 80) dX11_taken_74 (by decide) (fun a4 hc => ?_) (fun hc => ?_)
            · have hf := ocase_s hc hf
              try rw [hc]
              show AW G mX11_taken (d + 1) 0 0 K 80 [some (.ref 32), some (.int p1), some (.int p2), some (.ref a4)] [] (I, J, ρ)
              refine AW.aload_n dX11_taken_80 rfl ?_
              refine AW.iload_n dX11_taken_81 rfl ?_
              obtain ⟨v5, gv5, hf⟩ := ob_split hf
              refine TW.invs (as := [.ref a4, .int p2]) (rest := []) stX11_267 dX11_taken_82 rfl rfl (Nat.le_of_ble_eq_true rfl) (c_X11_isOfKind hs gv5 ?_)
              show AW G mX11_taken (d + 1) 0 0 K 85 [some (.ref 32), some (.int p1), some (.int p2), some (.ref a4)] [.int v5] (I, J, ρ)
              refine AW.if_eq (tgt := 95) dX11_taken_85 (by decide) (fun hc => ?_) (fun hc => ?_)
              · have hf := (if_pos hc).symm.trans hf
                refine AW.bipush (v := (-13 : Int32)) dX11_taken_95 (by decide) ?_
                obtain rfl := Option.some.inj hf
                exact AW.iret (st := []) dX11_taken_97 rfl hK
              · have hf := (if_neg hc).symm.trans hf
                refine AW.iload_n dX11_taken_88 rfl ?_
                refine AW.bipush (v := (8 : Int32)) dX11_taken_89 (by decide) ?_
                refine AW.isub dX11_taken_91 ?_
                refine AW.goto (tgt := 97) dX11_taken_92 (by decide) ?_
                obtain rfl := Option.some.inj hf
                exact AW.iret (st := []) dX11_taken_97 rfl hK
            · have hf := ocase_n hc hf
              try rw [hc]
              show AW G mX11_taken (d + 1) 0 0 K 77 [some (.ref 32), some (.int p1), some (.int p2), some (.null)] [] (I, J, ρ)
              refine AW.bipush (v := (-11 : Int32)) dX11_taken_77 (by decide) ?_
              obtain rfl := Option.some.inj hf
              exact AW.iret (st := []) dX11_taken_79 rfl hK
          · have hf := (if_neg hc).symm.trans hf
            refine AW.aload_n dX11_taken_32 rfl ?_
            refine AW.iload_n dX11_taken_33 rfl ?_
            obtain ⟨v1, gv1, hf⟩ := ob_split hf
            refine TW.invv (as := [.int p1]) (rest := []) viX11_81_11 hs.k32 dX11_taken_34 rfl rfl (Nat.le_of_ble_eq_true rfl) (c_X11_isMan hs gv1 ?_)
            show AW G mX11_taken (d + 1) 0 0 K 37 [some (.ref 32), some (.int p1), some (.int p2), none] [.int v1] (I, J, ρ)
            refine AW.if_ne (tgt := 43) dX11_taken_37 (by decide) (fun hc => ?_) (fun hc => ?_)
            · have hf := (if_neg hc).symm.trans hf
              refine AW.iload_n dX11_taken_43 rfl ?_
              refine AW.bipush (v := (6 : Int32)) dX11_taken_44 (by decide) ?_
              refine AW.icmp_ne (tgt := 61) dX11_taken_46 (by decide) (fun hc => ?_) (fun hc => ?_)
              · have hf := (if_neg hc).symm.trans hf
                refine AW.bipush (v := (-13 : Int32)) dX11_taken_61 (by decide) ?_
                obtain rfl := Option.some.inj hf
                exact AW.iret (st := []) dX11_taken_63 rfl hK
              · have hf := (if_pos hc).symm.trans hf
                refine AW.aload_n dX11_taken_49 rfl ?_
                refine TW.getR fX11_50_11 hs.k32 (rf_some hs.r32_0) dX11_taken_50 ?_
                refine TW.getR fX11_74_0 hs.k42 (rf_some hs.r42_1) dX11_taken_53 ?_
                refine AW.iload_n dX11_taken_56 rfl ?_
                obtain ⟨h2, hf⟩ := gd_split hf
                refine TW.iald (x := (I 43 (tn p1))) hs.k43 h2 rfl dX11_taken_57 ?_
                refine AW.goto (tgt := 63) dX11_taken_58 (by decide) ?_
                obtain rfl := Option.some.inj hf
                exact AW.iret (st := []) dX11_taken_63 rfl hK
            · have hf := (if_pos hc).symm.trans hf
              refine AW.bipush (v := (-11 : Int32)) dX11_taken_40 (by decide) ?_
              obtain rfl := Option.some.inj hf
              exact AW.iret (st := []) dX11_taken_42 rfl hK
        · have hf := (if_neg hc).symm.trans hf
          refine AW.bipush (v := (-12 : Int32)) dX11_taken_23 (by decide) ?_
          obtain rfl := Option.some.inj hf
          exact AW.iret (st := []) dX11_taken_25 rfl hK
    · have hf := (if_neg hc).symm.trans hf
      refine AW.bipush (v := (-2 : Int32)) dX11_taken_10 (by decide) ?_
      obtain rfl := Option.some.inj hf
      exact AW.iret (st := []) dX11_taken_12 rfl hK
