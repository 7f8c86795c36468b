/-! ===== methods 15.text 1 ===== -/
def f_X8_isDigit (N : Nat) (ρ : Rh) (I : Nat → Nat → Int32) (J : Nat → Nat → Int64) (p1 : Int32) : Option (Int32) := (if (p1 < (48 : Int32)) then some (0 : Int32) else (if ((57 : Int32) < p1) then some (0 : Int32) else some (1 : Int32)))
theorem c_X8_isDigit {G : Gd} {d N : Nat} {K : Ah → Option Value → Prop} {ρ : Rh} {I : Nat → Nat → Int32} {J : Nat → Nat → Int64} {p1 : Int32} {o : Int32} (hs : Sh ρ) (hf : f_X8_isDigit N ρ I J p1 = some o) (hK : K (I, J, ρ) (some (.int o))) : AM G d 0 0 mX8_isDigit [.int p1] (I, J, ρ) K := by
  unfold f_X8_isDigit at hf
  refine AM.intro okX8_isDigit.2.2.2.1 (Nat.le_of_ble_eq_true rfl) [some (.int p1)] rfl ?_
  refine AW.iload_n dX8_isDigit_0 rfl ?_
  refine AW.bipush (v := (48 : Int32)) dX8_isDigit_1 (by decide) ?_
  refine AW.icmp_lt (tgt := 16) dX8_isDigit_3 (by decide) (fun hc => ?_) (fun hc => ?_)
  · have hf := (if_pos hc).symm.trans hf
    refine AW.iconst (v := (0 : Int32)) dX8_isDigit_16 (by decide) ?_
    obtain rfl := Option.some.inj hf
    exact AW.zret (st := []) dX8_isDigit_17 rfl (Or.inl rfl) hK
  · have hf := (if_neg hc).symm.trans hf
    refine AW.iload_n dX8_isDigit_6 rfl ?_
    refine AW.bipush (v := (57 : Int32)) dX8_isDigit_7 (by decide) ?_
    refine AW.icmp_gt (tgt := 16) dX8_isDigit_9 (by decide) (fun hc => ?_) (fun hc => ?_)
    · have hf := (if_pos hc).symm.trans hf
      refine AW.iconst (v := (0 : Int32)) dX8_isDigit_16 (by decide) ?_
      obtain rfl := Option.some.inj hf
      exact AW.zret (st := []) dX8_isDigit_17 rfl (Or.inl rfl) hK
    · have hf := (if_neg hc).symm.trans hf
      refine AW.iconst (v := (1 : Int32)) dX8_isDigit_12 (by decide) ?_
      refine AW.goto (tgt := 17) dX8_isDigit_13 (by decide) ?_
      obtain rfl := Option.some.inj hf
      exact AW.zret (st := []) dX8_isDigit_17 rfl (Or.inr rfl) hK
def f_X8_isLetter (N : Nat) (ρ : Rh) (I : Nat → Nat → Int32) (J : Nat → Nat → Int64) (p1 : Int32) : Option (Int32) := (if (p1 < (97 : Int32)) then some (0 : Int32) else (if ((122 : Int32) < p1) then some (0 : Int32) else some (1 : Int32)))
theorem c_X8_isLetter {G : Gd} {d N : Nat} {K : Ah → Option Value → Prop} {ρ : Rh} {I : Nat → Nat → Int32} {J : Nat → Nat → Int64} {p1 : Int32} {o : Int32} (hs : Sh ρ) (hf : f_X8_isLetter N ρ I J p1 = some o) (hK : K (I, J, ρ) (some (.int o))) : AM G d 0 0 mX8_isLetter [.int p1] (I, J, ρ) K := by
  unfold f_X8_isLetter at hf
  refine AM.intro okX8_isLetter.2.2.2.1 (Nat.le_of_ble_eq_true rfl) [some (.int p1)] rfl ?_
  refine AW.iload_n dX8_isLetter_0 rfl ?_
  refine AW.bipush (v := (97 : Int32)) dX8_isLetter_1 (by decide) ?_
  refine AW.icmp_lt (tgt := 16) dX8_isLetter_3 (by decide) (fun hc => ?_) (fun hc => ?_)
  · have hf := (if_pos hc).symm.trans hf
    refine AW.iconst (v := (0 : Int32)) dX8_isLetter_16 (by decide) ?_
    obtain rfl := Option.some.inj hf
    exact AW.zret (st := []) dX8_isLetter_17 rfl (Or.inl rfl) hK
  · have hf := (if_neg hc).symm.trans hf
    refine AW.iload_n dX8_isLetter_6 rfl ?_
    refine AW.bipush (v := (122 : Int32)) dX8_isLetter_7 (by decide) ?_
    refine AW.icmp_gt (tgt := 16) dX8_isLetter_9 (by decide) (fun hc => ?_) (fun hc => ?_)
    · have hf := (if_pos hc).symm.trans hf
      refine AW.iconst (v := (0 : Int32)) dX8_isLetter_16 (by decide) ?_
      obtain rfl := Option.some.inj hf
      exact AW.zret (st := []) dX8_isLetter_17 rfl (Or.inl rfl) hK
    · have hf := (if_neg hc).symm.trans hf
      refine AW.iconst (v := (1 : Int32)) dX8_isLetter_12 (by decide) ?_
      refine AW.goto (tgt := 17) dX8_isLetter_13 (by decide) ?_
      obtain rfl := Option.some.inj hf
      exact AW.zret (st := []) dX8_isLetter_17 rfl (Or.inr rfl) hK
def f_X8_number_23 (N : Nat) (I : Nat → Nat → Int32) (J : Nat → Nat → Int64) (ρ : Rh) : Nat → Int32 → Int32 → Option (Int32)
  | 0, _, _ => none
  | n + 1, i1, i2 => (if ((I 35 7) ≤ i2) then some i1 else (if ¬ (i2 < 0 ∨ 160 ≤ tn i2) then (bnd (((10 : Int32) * i1) + ((I 36 (tn i2)) - (48 : Int32))) fun x4 => f_X8_number_23 N I J ρ n x4 (i2 + (1 : Int32))) else none))
theorem l_X8_number_23 {G : Gd} {d N : Nat} {K : Ah → Option Value → Prop} {I : Nat → Nat → Int32} {J : Nat → Nat → Int64} {ρ : Rh} (hs : Sh ρ) {o : Int32} : ∀ (n : Nat) (i1 : Int32) (i2 : Int32), f_X8_number_23 N I J ρ n i1 i2 = some o → AW G mX8_number d 0 0 K 52 [none, some (.int o), none] [] (I, J, ρ) → AW G mX8_number d 0 0 K 23 [some (.ref 35), some (.int i1), some (.int i2)] [] (I, J, ρ) := by
  intro n
  induction n with
  | zero => intro i1 i2 hf hE; rw [f_X8_number_23.eq_1] at hf; cases hf
  | succ n ih =>
    intro i1 i2 hf hE
    rw [f_X8_number_23.eq_2] at hf
    refine AW.iload_n dX8_number_23 rfl ?_
    refine AW.aload_n dX8_number_24 rfl ?_
    refine TW.getI (x := (I 35 7)) fX8_29_8 hs.k35 rfl dX8_number_25 ?_
    refine AW.icmp_ge (tgt := 52) dX8_number_28 (by decide) (fun hc => ?_) (fun hc => ?_)
    · have hf := (if_pos hc).symm.trans hf
      obtain rfl := Option.some.inj hf
      exact AW.weak _ (by exact (And.intro rfl trivial)) hE
    · have hf := (if_neg hc).symm.trans hf
      refine AW.bipush (v := (10 : Int32)) dX8_number_31 (by decide) ?_
      refine AW.iload_n dX8_number_33 rfl ?_
      refine AW.imul dX8_number_34 ?_
      refine AW.aload_n dX8_number_35 rfl ?_
      refine TW.getR fX8_9_8 hs.k35 (rf_some hs.r35_0) dX8_number_36 ?_
      refine AW.iload_n dX8_number_39 rfl ?_
      obtain ⟨h3, hf⟩ := gd_split hf
      refine TW.bald (x := (I 36 (tn i2))) hs.k36 h3 rfl dX8_number_40 ?_
      refine AW.bipush (v := (48 : Int32)) dX8_number_41 (by decide) ?_
      refine AW.isub dX8_number_43 ?_
      refine AW.iadd dX8_number_44 ?_
      obtain ⟨x4, gx4, hf⟩ := bnd_one hf
      refine AW.nmI gx4 ?_
      refine AW.istore_n (ls' := [some (.ref 35), some (.int x4), some (.int i2)]) dX8_number_45 (Nat.le_of_ble_eq_true rfl) rfl ?_
      refine AW.iinc (v := (i2 + (1 : Int32))) (ls' := [some (.ref 35), some (.int x4), some (.int (i2 + (1 : Int32)))]) dX8_number_46 rfl rfl (Nat.le_of_ble_eq_true rfl) rfl ?_
      refine AW.goto (tgt := 23) dX8_number_49 (by decide) ?_
      exact AW.weak _ (by exact (And.intro rfl (And.intro rfl (And.intro rfl trivial)))) (ih x4 (i2 + (1 : Int32)) hf hE)
def f_X8_number (N : Nat) (ρ : Rh) (I : Nat → Nat → Int32) (J : Nat → Nat → Int64) : Option (Int32) := (if (((I 35 7) - (I 35 6)) ≤ (4 : Int32)) then ((f_X8_number_23 N I J ρ N (0 : Int32) (I 35 6)).bind fun j5 => some j5) else some (-22 : Int32))
theorem c_X8_number {G : Gd} {d N : Nat} {K : Ah → Option Value → Prop} {ρ : Rh} {I : Nat → Nat → Int32} {J : Nat → Nat → Int64} {o : Int32} (hs : Sh ρ) (hf : f_X8_number N ρ I J = some o) (hK : K (I, J, ρ) (some (.int o))) : AM G d 0 0 mX8_number [.ref 35] (I, J, ρ) K := by
  unfold f_X8_number at hf
  refine AM.intro okX8_number.2.2.2.1 (Nat.le_of_ble_eq_true rfl) [some (.ref 35), none, none] rfl ?_
  refine AW.aload_n dX8_number_0 rfl ?_
  refine TW.getI (x := (I 35 7)) fX8_29_8 hs.k35 rfl dX8_number_1 ?_
  refine AW.aload_n dX8_number_4 rfl ?_
  refine TW.getI (x := (I 35 6)) fX8_56_8 hs.k35 rfl dX8_number_5 ?_
  refine AW.isub dX8_number_8 ?_
  refine AW.iconst (v := (4 : Int32)) dX8_number_9 (by decide) ?_
  refine AW.icmp_le (tgt := 16) dX8_number_10 (by decide) (fun hc => ?_) (fun hc => ?_)
  · have hf := (if_pos hc).symm.trans hf
    refine AW.iconst (v := (0 : Int32)) dX8_number_16 (by decide) ?_
    refine AW.istore_n (ls' := [some (.ref 35), some (.int (0 : Int32)), none]) dX8_number_17 (Nat.le_of_ble_eq_true rfl) rfl ?_
    refine AW.aload_n dX8_number_18 rfl ?_
    refine TW.getI (x := (I 35 6)) fX8_56_8 hs.k35 rfl dX8_number_19 ?_
    refine AW.istore_n (ls' := [some (.ref 35), some (.int (0 : Int32)), some (.int (I 35 6))]) dX8_number_22 (Nat.le_of_ble_eq_true rfl) rfl ?_
    obtain ⟨j5, gj5, hf⟩ := ob_split hf
    refine AW.weak _ (by exact (And.intro rfl (And.intro rfl (And.intro rfl trivial)))) (l_X8_number_23 hs N (0 : Int32) (I 35 6) gj5 ?_)
    show AW G mX8_number d 0 0 K 52 [none, some (.int j5), none] [] (I, J, ρ)
    refine AW.iload_n dX8_number_52 rfl ?_
    obtain rfl := Option.some.inj hf
    exact AW.iret (st := []) dX8_number_53 rfl hK
  · have hf := (if_neg hc).symm.trans hf
    refine AW.bipush (v := (-22 : Int32)) dX8_number_13 (by decide) ?_
    obtain rfl := Option.some.inj hf
    exact AW.iret (st := []) dX8_number_15 rfl hK
def f_X8_sign (N : Nat) (ρ : Rh) (I : Nat → Nat → Int32) (J : Nat → Nat → Int64) (p1 : Int32) : Option (Int32) := (if p1 = (40 : Int32) then some (-18 : Int32) else (if p1 = (41 : Int32) then some (-19 : Int32) else (if p1 = (42 : Int32) then some (-15 : Int32) else (if p1 = (43 : Int32) then some (-13 : Int32) else (if p1 = (45 : Int32) then some (-14 : Int32) else (if p1 = (59 : Int32) then some (-20 : Int32) else (if p1 = (60 : Int32) then some (-11 : Int32) else (if p1 = (61 : Int32) then some (-12 : Int32) else some (-22 : Int32)))))))))
theorem c_X8_sign {G : Gd} {d N : Nat} {K : Ah → Option Value → Prop} {ρ : Rh} {I : Nat → Nat → Int32} {J : Nat → Nat → Int64} {p1 : Int32} {o : Int32} (hs : Sh ρ) (hf : f_X8_sign N ρ I J p1 = some o) (hK : K (I, J, ρ) (some (.int o))) : AM G d 0 0 mX8_sign [.int p1] (I, J, ρ) K := by
  unfold f_X8_sign at hf
  refine AM.intro okX8_sign.2.2.2.1 (Nat.le_of_ble_eq_true rfl) [some (.int p1)] rfl ?_
  refine AW.iload_n dX8_sign_0 rfl ?_
  by_cases hc40 : p1 = (40 : Int32)
  · have hf := (if_pos hc40).symm.trans hf
    refine AW.swIn (tgt := 104) dX8_sign_1 (by rw [hc40]; decide) (by rw [hc40]; decide) (by rw [hc40]; rfl) (by decide) ?_
    refine AW.bipush (v := (-18 : Int32)) dX8_sign_104 (by decide) ?_
    obtain rfl := Option.some.inj hf
    exact AW.iret (st := []) dX8_sign_106 rfl hK
  have hf := (if_neg hc40).symm.trans hf
  by_cases hc41 : p1 = (41 : Int32)
  · have hf := (if_pos hc41).symm.trans hf
    refine AW.swIn (tgt := 107) dX8_sign_1 (by rw [hc41]; decide) (by rw [hc41]; decide) (by rw [hc41]; rfl) (by decide) ?_
    refine AW.bipush (v := (-19 : Int32)) dX8_sign_107 (by decide) ?_
    obtain rfl := Option.some.inj hf
    exact AW.iret (st := []) dX8_sign_109 rfl hK
  have hf := (if_neg hc41).symm.trans hf
  by_cases hc42 : p1 = (42 : Int32)
  · have hf := (if_pos hc42).symm.trans hf
    refine AW.swIn (tgt := 119) dX8_sign_1 (by rw [hc42]; decide) (by rw [hc42]; decide) (by rw [hc42]; rfl) (by decide) ?_
    refine AW.bipush (v := (-15 : Int32)) dX8_sign_119 (by decide) ?_
    obtain rfl := Option.some.inj hf
    exact AW.iret (st := []) dX8_sign_121 rfl hK
  have hf := (if_neg hc42).symm.trans hf
  by_cases hc43 : p1 = (43 : Int32)
  · have hf := (if_pos hc43).symm.trans hf
    refine AW.swIn (tgt := 113) dX8_sign_1 (by rw [hc43]; decide) (by rw [hc43]; decide) (by rw [hc43]; rfl) (by decide) ?_
    refine AW.bipush (v := (-13 : Int32)) dX8_sign_113 (by decide) ?_
    obtain rfl := Option.some.inj hf
    exact AW.iret (st := []) dX8_sign_115 rfl hK
  have hf := (if_neg hc43).symm.trans hf
  by_cases hc45 : p1 = (45 : Int32)
  · have hf := (if_pos hc45).symm.trans hf
    refine AW.swIn (tgt := 116) dX8_sign_1 (by rw [hc45]; decide) (by rw [hc45]; decide) (by rw [hc45]; rfl) (by decide) ?_
    refine AW.bipush (v := (-14 : Int32)) dX8_sign_116 (by decide) ?_
    obtain rfl := Option.some.inj hf
    exact AW.iret (st := []) dX8_sign_118 rfl hK
  have hf := (if_neg hc45).symm.trans hf
  by_cases hc59 : p1 = (59 : Int32)
  · have hf := (if_pos hc59).symm.trans hf
    refine AW.swIn (tgt := 110) dX8_sign_1 (by rw [hc59]; decide) (by rw [hc59]; decide) (by rw [hc59]; rfl) (by decide) ?_
    refine AW.bipush (v := (-20 : Int32)) dX8_sign_110 (by decide) ?_
    obtain rfl := Option.some.inj hf
    exact AW.iret (st := []) dX8_sign_112 rfl hK
  have hf := (if_neg hc59).symm.trans hf
  by_cases hc60 : p1 = (60 : Int32)
  · have hf := (if_pos hc60).symm.trans hf
    refine AW.swIn (tgt := 122) dX8_sign_1 (by rw [hc60]; decide) (by rw [hc60]; decide) (by rw [hc60]; rfl) (by decide) ?_
    refine AW.bipush (v := (-11 : Int32)) dX8_sign_122 (by decide) ?_
    obtain rfl := Option.some.inj hf
    exact AW.iret (st := []) dX8_sign_124 rfl hK
  have hf := (if_neg hc60).symm.trans hf
  by_cases hc61 : p1 = (61 : Int32)
  · have hf := (if_pos hc61).symm.trans hf
    refine AW.swIn (tgt := 125) dX8_sign_1 (by rw [hc61]; decide) (by rw [hc61]; decide) (by rw [hc61]; rfl) (by decide) ?_
    refine AW.bipush (v := (-12 : Int32)) dX8_sign_125 (by decide) ?_
    obtain rfl := Option.some.inj hf
    exact AW.iret (st := []) dX8_sign_127 rfl hK
  have hf := (if_neg hc61).symm.trans hf
  have KD : AW G mX8_sign d 0 0 K 128 [some (.int p1)] [] (I, J, ρ) := by
    refine AW.bipush (v := (-22 : Int32)) dX8_sign_128 (by decide) ?_
    obtain rfl := Option.some.inj hf
    exact AW.iret (st := []) dX8_sign_130 rfl hK
  by_cases hc44 : p1 = (44 : Int32)
  · exact AW.swIn (tgt := 128) dX8_sign_1 (by rw [hc44]; decide) (by rw [hc44]; decide) (by rw [hc44]; rfl) (by decide) KD
  by_cases hc46 : p1 = (46 : Int32)
  · exact AW.swIn (tgt := 128) dX8_sign_1 (by rw [hc46]; decide) (by rw [hc46]; decide) (by rw [hc46]; rfl) (by decide) KD
  by_cases hc47 : p1 = (47 : Int32)
  · exact AW.swIn (tgt := 128) dX8_sign_1 (by rw [hc47]; decide) (by rw [hc47]; decide) (by rw [hc47]; rfl) (by decide) KD
  by_cases hc48 : p1 = (48 : Int32)
  · exact AW.swIn (tgt := 128) dX8_sign_1 (by rw [hc48]; decide) (by rw [hc48]; decide) (by rw [hc48]; rfl) (by decide) KD
  by_cases hc49 : p1 = (49 : Int32)
  · exact AW.swIn (tgt := 128) dX8_sign_1 (by rw [hc49]; decide) (by rw [hc49]; decide) (by rw [hc49]; rfl) (by decide) KD
  by_cases hc50 : p1 = (50 : Int32)
  · exact AW.swIn (tgt := 128) dX8_sign_1 (by rw [hc50]; decide) (by rw [hc50]; decide) (by rw [hc50]; rfl) (by decide) KD
  by_cases hc51 : p1 = (51 : Int32)
  · exact AW.swIn (tgt := 128) dX8_sign_1 (by rw [hc51]; decide) (by rw [hc51]; decide) (by rw [hc51]; rfl) (by decide) KD
  by_cases hc52 : p1 = (52 : Int32)
  · exact AW.swIn (tgt := 128) dX8_sign_1 (by rw [hc52]; decide) (by rw [hc52]; decide) (by rw [hc52]; rfl) (by decide) KD
  by_cases hc53 : p1 = (53 : Int32)
  · exact AW.swIn (tgt := 128) dX8_sign_1 (by rw [hc53]; decide) (by rw [hc53]; decide) (by rw [hc53]; rfl) (by decide) KD
  by_cases hc54 : p1 = (54 : Int32)
  · exact AW.swIn (tgt := 128) dX8_sign_1 (by rw [hc54]; decide) (by rw [hc54]; decide) (by rw [hc54]; rfl) (by decide) KD
  by_cases hc55 : p1 = (55 : Int32)
  · exact AW.swIn (tgt := 128) dX8_sign_1 (by rw [hc55]; decide) (by rw [hc55]; decide) (by rw [hc55]; rfl) (by decide) KD
  by_cases hc56 : p1 = (56 : Int32)
  · exact AW.swIn (tgt := 128) dX8_sign_1 (by rw [hc56]; decide) (by rw [hc56]; decide) (by rw [hc56]; rfl) (by decide) KD
  by_cases hc57 : p1 = (57 : Int32)
  · exact AW.swIn (tgt := 128) dX8_sign_1 (by rw [hc57]; decide) (by rw [hc57]; decide) (by rw [hc57]; rfl) (by decide) KD
  by_cases hc58 : p1 = (58 : Int32)
  · exact AW.swIn (tgt := 128) dX8_sign_1 (by rw [hc58]; decide) (by rw [hc58]; decide) (by rw [hc58]; rfl) (by decide) KD
  have hc40 : ¬ (p1).toInt = 40 := fun q => hc40 (Int32.toInt_inj.mp q)
  have hc41 : ¬ (p1).toInt = 41 := fun q => hc41 (Int32.toInt_inj.mp q)
  have hc42 : ¬ (p1).toInt = 42 := fun q => hc42 (Int32.toInt_inj.mp q)
  have hc43 : ¬ (p1).toInt = 43 := fun q => hc43 (Int32.toInt_inj.mp q)
  have hc44 : ¬ (p1).toInt = 44 := fun q => hc44 (Int32.toInt_inj.mp q)
  have hc45 : ¬ (p1).toInt = 45 := fun q => hc45 (Int32.toInt_inj.mp q)
  have hc46 : ¬ (p1).toInt = 46 := fun q => hc46 (Int32.toInt_inj.mp q)
  have hc47 : ¬ (p1).toInt = 47 := fun q => hc47 (Int32.toInt_inj.mp q)
  have hc48 : ¬ (p1).toInt = 48 := fun q => hc48 (Int32.toInt_inj.mp q)
  have hc49 : ¬ (p1).toInt = 49 := fun q => hc49 (Int32.toInt_inj.mp q)
  have hc50 : ¬ (p1).toInt = 50 := fun q => hc50 (Int32.toInt_inj.mp q)
  have hc51 : ¬ (p1).toInt = 51 := fun q => hc51 (Int32.toInt_inj.mp q)
  have hc52 : ¬ (p1).toInt = 52 := fun q => hc52 (Int32.toInt_inj.mp q)
  have hc53 : ¬ (p1).toInt = 53 := fun q => hc53 (Int32.toInt_inj.mp q)
  have hc54 : ¬ (p1).toInt = 54 := fun q => hc54 (Int32.toInt_inj.mp q)
  have hc55 : ¬ (p1).toInt = 55 := fun q => hc55 (Int32.toInt_inj.mp q)
  have hc56 : ¬ (p1).toInt = 56 := fun q => hc56 (Int32.toInt_inj.mp q)
  have hc57 : ¬ (p1).toInt = 57 := fun q => hc57 (Int32.toInt_inj.mp q)
  have hc58 : ¬ (p1).toInt = 58 := fun q => hc58 (Int32.toInt_inj.mp q)
  have hc59 : ¬ (p1).toInt = 59 := fun q => hc59 (Int32.toInt_inj.mp q)
  have hc60 : ¬ (p1).toInt = 60 := fun q => hc60 (Int32.toInt_inj.mp q)
  have hc61 : ¬ (p1).toInt = 61 := fun q => hc61 (Int32.toInt_inj.mp q)
  exact AW.swOut dX8_sign_1 (by omega) (by decide) KD
def f_J0_isLatin1_aae02 (N : Nat) (ρ : Rh) (I : Nat → Nat → Int32) (J : Nat → Nat → Int64) (p0 : Nat) : Option (Int32) := some (1 : Int32)
theorem c_J0_isLatin1_aae02 {G : Gd} {d N : Nat} {K : Ah → Option Value → Prop} {ρ : Rh} {I : Nat → Nat → Int32} {J : Nat → Nat → Int64} {p0 : Nat} {o : Int32} (hs : Sh ρ) (hi : p0 < 11) (hf : f_J0_isLatin1_aae02 N ρ I J p0 = some o) (hK : K (I, J, ρ) (some (.int o))) : AM G d 0 0 mJ0_isLatin1_aae02 [.ref (2 + p0)] (I, J, ρ) K := by
  unfold f_J0_isLatin1_aae02 at hf
  refine AM.intro okJ0_isLatin1_aae02.2.2.2.1 (Nat.le_of_ble_eq_true rfl) [some (.ref (2 + p0))] rfl ?_
  refine AW.getsC gsJ0_38 dJ0_isLatin1_aae02_0 ?_
  refine AW.if_eq (tgt := 17) dJ0_isLatin1_aae02_3 (by decide) (fun hc => absurd hc (by decide)) (fun hc => ?_)
  refine AW.aload_n dJ0_isLatin1_aae02_6 rfl ?_
  refine AW.sCod (i := p0) hi sf_coder dJ0_isLatin1_aae02_7 ?_
  refine AW.if_ne (tgt := 17) dJ0_isLatin1_aae02_10 (by decide) (fun hc => absurd hc (by decide)) (fun hc => ?_)
  refine AW.iconst (v := (1 : Int32)) dJ0_isLatin1_aae02_13 (by decide) ?_
  refine AW.goto (tgt := 18) dJ0_isLatin1_aae02_14 (by decide) ?_
  obtain rfl := Option.some.inj hf
  exact AW.zret (st := []) dJ0_isLatin1_aae02_18 rfl (Or.inr rfl) hK
def f_J3_checkIndex_8e157 (N : Nat) (ρ : Rh) (I : Nat → Nat → Int32) (J : Nat → Nat → Int64) (p1 : Int32) (p2 : Int32) : Option (Int32) := (if (p1 < (0 : Int32)) then none else (if (p1 < p2) then some p1 else none))
theorem c_J3_checkIndex_8e157 {G : Gd} {d N : Nat} {K : Ah → Option Value → Prop} {ρ : Rh} {I : Nat → Nat → Int32} {J : Nat → Nat → Int64} {p1 : Int32} {p2 : Int32} {p3 : Option Nat} {o : Int32} (hs : Sh ρ) (hf : f_J3_checkIndex_8e157 N ρ I J p1 p2 = some o) (hK : K (I, J, ρ) (some (.int o))) : AM G d 0 0 mJ3_checkIndex_8e157 [.int p1, .int p2, va_rf p3] (I, J, ρ) K := by
  unfold f_J3_checkIndex_8e157 at hf
  refine AM.intro okJ3_checkIndex_8e157.2.2.2.1 (by cases p3 <;> exact (Nat.le_of_ble_eq_true rfl)) [some (.int p1), some (.int p2), some (va_rf p3)] (by cases p3 <;> rfl) ?_
  refine AW.iload_n dJ3_checkIndex_8e157_0 rfl ?_
  refine AW.if_lt (tgt := 9) dJ3_checkIndex_8e157_1 (by decide) (fun hc => ?_) (fun hc => ?_)
  · have hf := (if_pos hc).symm.trans hf
    refine AW.aload_nq dJ3_checkIndex_8e157_9 rfl ?_
    refine AW.iload_n dJ3_checkIndex_8e157_10 rfl ?_
    refine AW.iload_n dJ3_checkIndex_8e157_11 rfl ?_
    cases hf
  · have hf := (if_neg hc).symm.trans hf
    refine AW.iload_n dJ3_checkIndex_8e157_4 rfl ?_
    refine AW.iload_n dJ3_checkIndex_8e157_5 rfl ?_
    refine AW.icmp_lt (tgt := 16) dJ3_checkIndex_8e157_6 (by decide) (fun hc => ?_) (fun hc => ?_)
    · have hf := (if_pos hc).symm.trans hf
      refine AW.iload_n dJ3_checkIndex_8e157_16 rfl ?_
      obtain rfl := Option.some.inj hf
      exact AW.iret (st := []) dJ3_checkIndex_8e157_17 rfl hK
    · have hf := (if_neg hc).symm.trans hf
      refine AW.aload_nq dJ3_checkIndex_8e157_9 rfl ?_
      refine AW.iload_n dJ3_checkIndex_8e157_10 rfl ?_
      refine AW.iload_n dJ3_checkIndex_8e157_11 rfl ?_
      cases hf
def f_J0_checkIndex_df160 (N : Nat) (ρ : Rh) (I : Nat → Nat → Int32) (J : Nat → Nat → Int64) (p1 : Int32) (p2 : Int32) : Option (Unit) := (Option.bind (f_J3_checkIndex_8e157 N ρ I J p1 p2) fun v2 => some ())
theorem c_J0_checkIndex_df160 {G : Gd} {d N : Nat} {K : Ah → Option Value → Prop} {ρ : Rh} {I : Nat → Nat → Int32} {J : Nat → Nat → Int64} {p1 : Int32} {p2 : Int32} {o : Unit} (hs : Sh ρ) (hf : f_J0_checkIndex_df160 N ρ I J p1 p2 = some o) (hK : K (I, J, ρ) none) : AM G (d + 1) 0 0 mJ0_checkIndex_df160 [.int p1, .int p2] (I, J, ρ) K := by
  unfold f_J0_checkIndex_df160 at hf
  refine AM.intro okJ0_checkIndex_df160.2.2.2.1 (Nat.le_of_ble_eq_true rfl) [some (.int p1), some (.int p2)] rfl ?_
  refine AW.iload_n dJ0_checkIndex_df160_0 rfl ?_
  refine AW.iload_n dJ0_checkIndex_df160_1 rfl ?_
  refine AW.getsF gsJ0_1053 dJ0_checkIndex_df160_2 (fun z1 => ?_)
  obtain ⟨v2, gv2, hf⟩ := ob_split hf
  refine TW.invs (as := [.int p1, .int p2, va_rf z1]) (rest := []) stJ0_1059 dJ0_checkIndex_df160_5 rfl rfl (Nat.le_of_ble_eq_true rfl) (c_J3_checkIndex_8e157 hs gv2 ?_)
  show AW G mJ0_checkIndex_df160 (d + 1) 0 0 K 8 [some (.int p1), some (.int p2)] [.int v2] (I, J, ρ)
  refine AW.pop dJ0_checkIndex_df160_8 rfl ?_
  obtain rfl := Option.some.inj hf
  exact AW.vret (st := []) dJ0_checkIndex_df160_9 rfl hK
def f_J1_charAt_3b067 (N : Nat) (ρ : Rh) (I : Nat → Nat → Int32) (J : Nat → Nat → Int64) (p1 : Nat) (p2 : Int32) : Option (Int32) := (Option.bind (f_J0_checkIndex_df160 N ρ I J p2 (Int32.ofNat (sLen.getD p1 0))) fun v1 => (if ¬ (p2 < 0 ∨ (sLen.getD p1 0) ≤ tn p2) then some (((((sByt.getD p1 []).getD (tn p2) 0) &&& (255 : Int32)).toUInt32 % 65536).toInt32) else none))
theorem c_J1_charAt_3b067 {G : Gd} {d N : Nat} {K : Ah → Option Value → Prop} {ρ : Rh} {I : Nat → Nat → Int32} {J : Nat → Nat → Int64} {p1 : Nat} {p2 : Int32} {o : Int32} (hs : Sh ρ) (hi : p1 < 11) (hf : f_J1_charAt_3b067 N ρ I J p1 p2 = some o) (hK : K (I, J, ρ) (some (.int o))) : AM G (d + 2) 0 0 mJ1_charAt_3b067 [.ref (13 + p1), .int p2] (I, J, ρ) K := by
  unfold f_J1_charAt_3b067 at hf
  refine AM.intro okJ1_charAt_3b067.2.2.2.1 (Nat.le_of_ble_eq_true rfl) [some (.ref (13 + p1)), some (.int p2)] rfl ?_
  refine AW.iload_n dJ1_charAt_3b067_0 rfl ?_
  refine AW.aload_n dJ1_charAt_3b067_1 rfl ?_
  refine AW.sLn (i := p1) hi rfl dJ1_charAt_3b067_2 ?_
  obtain ⟨v1, gv1, hf⟩ := ob_split hf
  refine TW.invs (as := [.int p2, .int (Int32.ofNat (sLen.getD p1 0))]) (rest := []) stJ1_9 dJ1_charAt_3b067_3 rfl rfl (Nat.le_of_ble_eq_true rfl) (c_J0_checkIndex_df160 hs gv1 ?_)
  show AW G mJ1_charAt_3b067 (d + 2) 0 0 K 6 [some (.ref (13 + p1)), some (.int p2)] [] (I, J, ρ)
  refine AW.aload_n dJ1_charAt_3b067_6 rfl ?_
  refine AW.iload_n dJ1_charAt_3b067_7 rfl ?_
  obtain ⟨h2, hf⟩ := gd_split hf
  refine AW.sAt (i := p1) hi h2 rfl dJ1_charAt_3b067_8 ?_
  refine AW.sipush (v := (255 : Int32)) dJ1_charAt_3b067_9 (by decide) ?_
  refine AW.iand dJ1_charAt_3b067_12 ?_
  refine AW.i2c dJ1_charAt_3b067_13 ?_
  obtain rfl := Option.some.inj hf
  exact AW.cret (st := []) dJ1_charAt_3b067_14 rfl (nw_char _) hK
theorem z_J1_charAt_3b067 {N : Nat} {ρ : Rh} {I : Nat → Nat → Int32} {J : Nat → Nat → Int64} {p1 : Nat} {p2 : Int32} {o : Int32} (hf : f_J1_charAt_3b067 N ρ I J p1 p2 = some o) : narrow .char (.int o) = .int o := by
  unfold f_J1_charAt_3b067 at hf
  obtain ⟨_, _, hf⟩ := ob_split hf
  obtain ⟨_, hf⟩ := gd_split hf
  obtain rfl := Option.some.inj hf
  exact nw_char _
def f_J0_charAt_5068e (N : Nat) (ρ : Rh) (I : Nat → Nat → Int32) (J : Nat → Nat → Int64) (p0 : Nat) (p1 : Int32) : Option (Int32) := (Option.bind (f_J0_isLatin1_aae02 N ρ I J p0) fun v1 => (if (v1 = (0 : Int32)) then none else (Option.bind (f_J1_charAt_3b067 N ρ I J p0 p1) fun v2 => some v2)))
theorem c_J0_charAt_5068e {G : Gd} {d N : Nat} {K : Ah → Option Value → Prop} {ρ : Rh} {I : Nat → Nat → Int32} {J : Nat → Nat → Int64} {p0 : Nat} {p1 : Int32} {o : Int32} (hs : Sh ρ) (hi : p0 < 11) (hf : f_J0_charAt_5068e N ρ I J p0 p1 = some o) (hK : K (I, J, ρ) (some (.int o))) : AM G (d + 3) 0 0 mJ0_charAt_5068e [.ref (2 + p0), .int p1] (I, J, ρ) K := by
  unfold f_J0_charAt_5068e at hf
  refine AM.intro okJ0_charAt_5068e.2.2.2.1 (Nat.le_of_ble_eq_true rfl) [some (.ref (2 + p0)), some (.int p1)] rfl ?_
  refine AW.aload_n dJ0_charAt_5068e_0 rfl ?_
  obtain ⟨v1, gv1, hf⟩ := ob_split hf
  refine TW.invx (i := p0) (as := []) (rest := []) svJ0_492 hi dJ0_charAt_5068e_1 rfl rfl (Nat.le_of_ble_eq_true rfl) (c_J0_isLatin1_aae02 hs hi gv1 ?_)
  show AW G mJ0_charAt_5068e (d + 3) 0 0 K 4 [some (.ref (2 + p0)), some (.int p1)] [.int v1] (I, J, ρ)
  refine AW.if_eq (tgt := 16) dJ0_charAt_5068e_4 (by decide) (fun hc => ?_) (fun hc => ?_)
  · have hf := (if_pos hc).symm.trans hf
    refine AW.aload_n dJ0_charAt_5068e_16 rfl ?_
    refine AW.sVal (i := p0) hi sf_value dJ0_charAt_5068e_17 ?_
    refine AW.iload_n dJ0_charAt_5068e_20 rfl ?_
    cases hf
  · have hf := (if_neg hc).symm.trans hf
    refine AW.aload_n dJ0_charAt_5068e_7 rfl ?_
    refine AW.sVal (i := p0) hi sf_value dJ0_charAt_5068e_8 ?_
    refine AW.iload_n dJ0_charAt_5068e_11 rfl ?_
    obtain ⟨v2, gv2, hf⟩ := ob_split hf
    refine TW.invs (as := [.ref (13 + p0), .int p1]) (rest := []) stJ0_495 dJ0_charAt_5068e_12 rfl rfl (Nat.le_of_ble_eq_true rfl) (c_J1_charAt_3b067 hs hi gv2 ?_)
    show AW G mJ0_charAt_5068e (d + 3) 0 0 K 15 [some (.ref (2 + p0)), some (.int p1)] [.int v2] (I, J, ρ)
    obtain rfl := Option.some.inj hf
    exact AW.cret (st := []) dJ0_charAt_5068e_15 rfl (z_J1_charAt_3b067 gv2) hK
def f_J0_coder_7d493 (N : Nat) (ρ : Rh) (I : Nat → Nat → Int32) (J : Nat → Nat → Int64) (p0 : Nat) : Option (Int32) := some (0 : Int32)
theorem c_J0_coder_7d493 {G : Gd} {d N : Nat} {K : Ah → Option Value → Prop} {ρ : Rh} {I : Nat → Nat → Int32} {J : Nat → Nat → Int64} {p0 : Nat} {o : Int32} (hs : Sh ρ) (hi : p0 < 11) (hf : f_J0_coder_7d493 N ρ I J p0 = some o) (hK : K (I, J, ρ) (some (.int o))) : AM G d 0 0 mJ0_coder_7d493 [.ref (2 + p0)] (I, J, ρ) K := by
  unfold f_J0_coder_7d493 at hf
  refine AM.intro okJ0_coder_7d493.2.2.2.1 (Nat.le_of_ble_eq_true rfl) [some (.ref (2 + p0))] rfl ?_
  refine AW.getsC gsJ0_38 dJ0_coder_7d493_0 ?_
  refine AW.if_eq (tgt := 13) dJ0_coder_7d493_3 (by decide) (fun hc => absurd hc (by decide)) (fun hc => ?_)
  refine AW.aload_n dJ0_coder_7d493_6 rfl ?_
  refine AW.sCod (i := p0) hi sf_coder dJ0_coder_7d493_7 ?_
  refine AW.goto (tgt := 14) dJ0_coder_7d493_10 (by decide) ?_
  obtain rfl := Option.some.inj hf
  exact AW.bret (st := []) dJ0_coder_7d493_14 rfl rfl hK
def f_J0_length_8abf5 (N : Nat) (ρ : Rh) (I : Nat → Nat → Int32) (J : Nat → Nat → Int64) (p0 : Nat) : Option (Int32) := (Option.bind (f_J0_coder_7d493 N ρ I J p0) fun v1 => some ((Int32.ofNat (sLen.getD p0 0)) >>> (v1 &&& 31)))
theorem c_J0_length_8abf5 {G : Gd} {d N : Nat} {K : Ah → Option Value → Prop} {ρ : Rh} {I : Nat → Nat → Int32} {J : Nat → Nat → Int64} {p0 : Nat} {o : Int32} (hs : Sh ρ) (hi : p0 < 11) (hf : f_J0_length_8abf5 N ρ I J p0 = some o) (hK : K (I, J, ρ) (some (.int o))) : AM G (d + 1) 0 0 mJ0_length_8abf5 [.ref (2 + p0)] (I, J, ρ) K := by
  unfold f_J0_length_8abf5 at hf
  refine AM.intro okJ0_length_8abf5.2.2.2.1 (Nat.le_of_ble_eq_true rfl) [some (.ref (2 + p0))] rfl ?_
  refine AW.aload_n dJ0_length_8abf5_0 rfl ?_
  refine AW.sVal (i := p0) hi sf_value dJ0_length_8abf5_1 ?_
  refine AW.sLn (i := p0) hi rfl dJ0_length_8abf5_4 ?_
  refine AW.aload_n dJ0_length_8abf5_5 rfl ?_
  obtain ⟨v1, gv1, hf⟩ := ob_split hf
  refine TW.invx (i := p0) (as := []) (rest := [.int (Int32.ofNat (sLen.getD p0 0))]) svJ0_335 hi dJ0_length_8abf5_6 rfl rfl (Nat.le_of_ble_eq_true rfl) (c_J0_coder_7d493 hs hi gv1 ?_)
  show AW G mJ0_length_8abf5 (d + 1) 0 0 K 9 [some (.ref (2 + p0))] [.int v1, .int (Int32.ofNat (sLen.getD p0 0))] (I, J, ρ)
  refine AW.ishr dJ0_length_8abf5_9 ?_
  obtain rfl := Option.some.inj hf
  exact AW.iret (st := []) dJ0_length_8abf5_10 rfl hK
def f_X8_reads_20 (N : Nat) (I : Nat → Nat → Int32) (J : Nat → Nat → Int64) (ρ : Rh) (p1 : Nat) : Nat → Int32 → Option ((Int32) ⊕ (Unit))
  | 0, _ => none
  | n + 1, i2 => (Option.bind (f_J0_length_8abf5 N ρ I J p1) fun v3 => (if (v3 ≤ i2) then some (Sum.inr ()) else (if ¬ (((I 35 6) + i2) < 0 ∨ 160 ≤ tn ((I 35 6) + i2)) then (Option.bind (f_J0_charAt_5068e N ρ I J p1 i2) fun v5 => (if ((I 36 (tn ((I 35 6) + i2))) = v5) then f_X8_reads_20 N I J ρ p1 n (i2 + (1 : Int32)) else some (Sum.inl (0 : Int32)))) else none)))
theorem l_X8_reads_20 {G : Gd} {d N : Nat} {K : Ah → Option Value → Prop} {I : Nat → Nat → Int32} {J : Nat → Nat → Int64} {ρ : Rh} {p1 : Nat} (hs : Sh ρ) (hi : p1 < 11) {o : (Int32) ⊕ (Unit)} : ∀ (n : Nat) (i2 : Int32), f_X8_reads_20 N I J ρ p1 n i2 = some o → scase o (fun r => K (I, J, ρ) (some (.int r))) (fun o => AW G mX8_reads (d + 4) 0 0 K 55 [none, none, none] [] (I, J, ρ)) → AW G mX8_reads (d + 4) 0 0 K 20 [some (.ref 35), some (.ref (2 + p1)), some (.int i2)] [] (I, J, ρ) := by
  intro n
  induction n with
  | zero => intro i2 hf hE; rw [f_X8_reads_20.eq_1] at hf; cases hf
  | succ n ih =>
    intro i2 hf hE
    rw [f_X8_reads_20.eq_2] at hf
    refine AW.iload_n dX8_reads_20 rfl ?_
    refine AW.aload_n dX8_reads_21 rfl ?_
    obtain ⟨v3, gv3, hf⟩ := ob_split hf
    refine TW.invx (i := p1) (as := []) (rest := [.int i2]) svX8_101 hi dX8_reads_22 rfl rfl (Nat.le_of_ble_eq_true rfl) (c_J0_length_8abf5 hs hi gv3 ?_)
    show AW G mX8_reads (d + 4) 0 0 K 25 [some (.ref 35), some (.ref (2 + p1)), some (.int i2)] [.int v3, .int i2] (I, J, ρ)
    refine AW.icmp_ge (tgt := 55) dX8_reads_25 (by decide) (fun hc => ?_) (fun hc => ?_)
    · have hf := (if_pos hc).symm.trans hf
      obtain rfl := Option.some.inj hf
      exact AW.weak _ (by exact trivial) hE
    · have hf := (if_neg hc).symm.trans hf
      refine AW.aload_n dX8_reads_28 rfl ?_
      refine TW.getR fX8_9_8 hs.k35 (rf_some hs.r35_0) dX8_reads_29 ?_
      refine AW.aload_n dX8_reads_32 rfl ?_
      refine TW.getI (x := (I 35 6)) fX8_56_8 hs.k35 rfl dX8_reads_33 ?_
      refine AW.iload_n dX8_reads_36 rfl ?_
      refine AW.iadd dX8_reads_37 ?_
      obtain ⟨h4, hf⟩ := gd_split hf
      refine TW.bald (x := (I 36 (tn ((I 35 6) + i2)))) hs.k36 h4 rfl dX8_reads_38 ?_
      refine AW.aload_n dX8_reads_39 rfl ?_
      refine AW.iload_n dX8_reads_40 rfl ?_
      obtain ⟨v5, gv5, hf⟩ := ob_split hf
      refine TW.invx (i := p1) (as := [.int i2]) (rest := [.int (I 36 (tn ((I 35 6) + i2)))]) svX8_105 hi dX8_reads_41 rfl rfl (Nat.le_of_ble_eq_true rfl) (c_J0_charAt_5068e hs hi gv5 ?_)
      show AW G mX8_reads (d + 4) 0 0 K 44 [some (.ref 35), some (.ref (2 + p1)), some (.int i2)] [.int v5, .int (I 36 (tn ((I 35 6) + i2)))] (I, J, ρ)
      refine AW.icmp_eq (tgt := 49) dX8_reads_44 (by decide) (fun hc => ?_) (fun hc => ?_)
      · have hf := (if_pos hc).symm.trans hf
        refine AW.iinc (v := (i2 + (1 : Int32))) (ls' := [some (.ref 35), some (.ref (2 + p1)), some (.int (i2 + (1 : Int32)))]) dX8_reads_49 rfl rfl (Nat.le_of_ble_eq_true rfl) rfl ?_
        refine AW.goto (tgt := 20) dX8_reads_52 (by decide) ?_
        exact AW.weak _ (by exact (And.intro rfl (And.intro rfl (And.intro rfl trivial)))) (ih (i2 + (1 : Int32)) hf hE)
      · have hf := (if_neg hc).symm.trans hf
        refine AW.iconst (v := (0 : Int32)) dX8_reads_47 (by decide) ?_
        obtain rfl := Option.some.inj hf
        exact AW.zret (st := []) dX8_reads_48 rfl (Or.inl rfl) hE
def f_X8_reads (N : Nat) (ρ : Rh) (I : Nat → Nat → Int32) (J : Nat → Nat → Int64) (p1 : Nat) : Option (Int32) := (Option.bind (f_J0_length_8abf5 N ρ I J p1) fun v1 => (if (v1 = ((I 35 7) - (I 35 6))) then ((f_X8_reads_20 N I J ρ p1 N (0 : Int32)).bind fun j6 => scase j6 (fun r => some r) (fun j6 => some (1 : Int32))) else some (0 : Int32)))
theorem c_X8_reads {G : Gd} {d N : Nat} {K : Ah → Option Value → Prop} {ρ : Rh} {I : Nat → Nat → Int32} {J : Nat → Nat → Int64} {p1 : Nat} {o : Int32} (hs : Sh ρ) (hi : p1 < 11) (hf : f_X8_reads N ρ I J p1 = some o) (hK : K (I, J, ρ) (some (.int o))) : AM G (d + 4) 0 0 mX8_reads [.ref 35, .ref (2 + p1)] (I, J, ρ) K := by
  unfold f_X8_reads at hf
  refine AM.intro okX8_reads.2.2.2.1 (Nat.le_of_ble_eq_true rfl) [some (.ref 35), some (.ref (2 + p1)), none] rfl ?_
  refine AW.aload_n dX8_reads_0 rfl ?_
  obtain ⟨v1, gv1, hf⟩ := ob_split hf
  refine TW.invx (i := p1) (as := []) (rest := []) svX8_101 hi dX8_reads_1 rfl rfl (Nat.le_of_ble_eq_true rfl) (c_J0_length_8abf5 hs hi gv1 ?_)
  show AW G mX8_reads (d + 4) 0 0 K 4 [some (.ref 35), some (.ref (2 + p1)), none] [.int v1] (I, J, ρ)
  refine AW.aload_n dX8_reads_4 rfl ?_
  refine TW.getI (x := (I 35 7)) fX8_29_8 hs.k35 rfl dX8_reads_5 ?_
  refine AW.aload_n dX8_reads_8 rfl ?_
  refine TW.getI (x := (I 35 6)) fX8_56_8 hs.k35 rfl dX8_reads_9 ?_
  refine AW.isub dX8_reads_12 ?_
  refine AW.icmp_eq (tgt := 18) dX8_reads_13 (by decide) (fun hc => ?_) (fun hc => ?_)
  · have hf := (if_pos hc).symm.trans hf
    refine AW.iconst (v := (0 : Int32)) dX8_reads_18 (by decide) ?_
    refine AW.istore_n (ls' := [some (.ref 35), some (.ref (2 + p1)), some (.int (0 : Int32))]) dX8_reads_19 (Nat.le_of_ble_eq_true rfl) rfl ?_
    obtain ⟨j6, gj6, hf⟩ := ob_split hf
    refine AW.weak _ (by exact (And.intro rfl (And.intro rfl (And.intro rfl trivial)))) (l_X8_reads_20 hs hi N (0 : Int32) gj6 ?_)
    rcases j6 with r | j6
    · obtain rfl := Option.some.inj hf; exact hK
    · show AW G mX8_reads (d + 4) 0 0 K 55 [none, none, none] [] (I, J, ρ)
      refine AW.iconst (v := (1 : Int32)) dX8_reads_55 (by decide) ?_
      obtain rfl := Option.some.inj hf
      exact AW.zret (st := []) dX8_reads_56 rfl (Or.inr rfl) hK
  · have hf := (if_neg hc).symm.trans hf
    refine AW.iconst (v := (0 : Int32)) dX8_reads_16 (by decide) ?_
    obtain rfl := Option.some.inj hf
    exact AW.zret (st := []) dX8_reads_17 rfl (Or.inl rfl) hK
def f_X8_word (N : Nat) (ρ : Rh) (I : Nat → Nat → Int32) (J : Nat → Nat → Int64) : Option (Int32) := (Option.bind (f_X8_reads N ρ I J 0) fun v1 => (if (v1 = (0 : Int32)) then (Option.bind (f_X8_reads N ρ I J 1) fun v2 => (if (v2 = (0 : Int32)) then (Option.bind (f_X8_reads N ρ I J 2) fun v3 => (if (v3 = (0 : Int32)) then (Option.bind (f_X8_reads N ρ I J 3) fun v4 => (if (v4 = (0 : Int32)) then (Option.bind (f_X8_reads N ρ I J 4) fun v5 => (if (v5 = (0 : Int32)) then (Option.bind (f_X8_reads N ρ I J 5) fun v6 => (if (v6 = (0 : Int32)) then (Option.bind (f_X8_reads N ρ I J 6) fun v7 => (if (v7 = (0 : Int32)) then (Option.bind (f_X8_reads N ρ I J 7) fun v8 => (if (v8 = (0 : Int32)) then (Option.bind (f_X8_reads N ρ I J 8) fun v9 => (if (v9 = (0 : Int32)) then (Option.bind (f_X8_reads N ρ I J 9) fun v10 => (if (v10 = (0 : Int32)) then (Option.bind (f_X8_reads N ρ I J 10) fun v11 => (if (v11 = (0 : Int32)) then some (-22 : Int32) else some (-6 : Int32))) else some (-5 : Int32))) else some (-4 : Int32))) else some (-3 : Int32))) else some (-2 : Int32))) else some (-1 : Int32))) else some (-8 : Int32))) else some (-10 : Int32))) else some (-9 : Int32))) else some (-17 : Int32))) else some (-16 : Int32)))
theorem c_X8_word {G : Gd} {d N : Nat} {K : Ah → Option Value → Prop} {ρ : Rh} {I : Nat → Nat → Int32} {J : Nat → Nat → Int64} {o : Int32} (hs : Sh ρ) (hf : f_X8_word N ρ I J = some o) (hK : K (I, J, ρ) (some (.int o))) : AM G (d + 5) 0 0 mX8_word [.ref 35] (I, J, ρ) K := by
  unfold f_X8_word at hf
  refine AM.intro okX8_word.2.2.2.1 (Nat.le_of_ble_eq_true rfl) [some (.ref 35)] rfl ?_
  refine AW.aload_n dX8_word_0 rfl ?_
  refine AW.ldcS (i := 0) (by decide) rfl dX8_word_1 ?_
  obtain ⟨v1, gv1, hf⟩ := ob_split hf
  refine TW.invv (as := [.ref 2]) (rest := []) viX8_77_8 hs.k35 dX8_word_3 rfl rfl (Nat.le_of_ble_eq_true rfl) (c_X8_reads hs (by decide) gv1 ?_)
  show AW G mX8_word (d + 5) 0 0 K 6 [some (.ref 35)] [.int v1] (I, J, ρ)
  refine AW.if_eq (tgt := 12) dX8_word_6 (by decide) (fun hc => ?_) (fun hc => ?_)
  · have hf := (if_pos hc).symm.trans hf
    refine AW.aload_n dX8_word_12 rfl ?_
    refine AW.ldcS (i := 1) (by decide) rfl dX8_word_13 ?_
    obtain ⟨v2, gv2, hf⟩ := ob_split hf
    refine TW.invv (as := [.ref 3]) (rest := []) viX8_77_8 hs.k35 dX8_word_15 rfl rfl (Nat.le_of_ble_eq_true rfl) (c_X8_reads hs (by decide) gv2 ?_)
    show AW G mX8_word (d + 5) 0 0 K 18 [some (.ref 35)] [.int v2] (I, J, ρ)
    refine AW.if_eq (tgt := 24) dX8_word_18 (by decide) (fun hc => ?_) (fun hc => ?_)
    · have hf := (if_pos hc).symm.trans hf
      refine AW.aload_n dX8_word_24 rfl ?_
      refine AW.ldcS (i := 2) (by decide) rfl dX8_word_25 ?_
      obtain ⟨v3, gv3, hf⟩ := ob_split hf
      refine TW.invv (as := [.ref 4]) (rest := []) viX8_77_8 hs.k35 dX8_word_27 rfl rfl (Nat.le_of_ble_eq_true rfl) (c_X8_reads hs (by decide) gv3 ?_)
      show AW G mX8_word (d + 5) 0 0 K 30 [some (.ref 35)] [.int v3] (I, J, ρ)
      refine AW.if_eq (tgt := 36) dX8_word_30 (by decide) (fun hc => ?_) (fun hc => ?_)
      · have hf := (if_pos hc).symm.trans hf
        refine AW.aload_n dX8_word_36 rfl ?_
        refine AW.ldcS (i := 3) (by decide) rfl dX8_word_37 ?_
        obtain ⟨v4, gv4, hf⟩ := ob_split hf
        refine TW.invv (as := [.ref 5]) (rest := []) viX8_77_8 hs.k35 dX8_word_39 rfl rfl (Nat.le_of_ble_eq_true rfl) (c_X8_reads hs (by decide) gv4 ?_)
        show AW G mX8_word (d + 5) 0 0 K 42 [some (.ref 35)] [.int v4] (I, J, ρ)
        refine AW.if_eq (tgt := 48) dX8_word_42 (by decide) (fun hc => ?_) (fun hc => ?_)
        · have hf := (if_pos hc).symm.trans hf
          refine AW.aload_n dX8_word_48 rfl ?_
          refine AW.ldcS (i := 4) (by decide) rfl dX8_word_49 ?_
          obtain ⟨v5, gv5, hf⟩ := ob_split hf
          refine TW.invv (as := [.ref 6]) (rest := []) viX8_77_8 hs.k35 dX8_word_51 rfl rfl (Nat.le_of_ble_eq_true rfl) (c_X8_reads hs (by decide) gv5 ?_)
          show AW G mX8_word (d + 5) 0 0 K 54 [some (.ref 35)] [.int v5] (I, J, ρ)
          refine AW.if_eq (tgt := 60) dX8_word_54 (by decide) (fun hc => ?_) (fun hc => ?_)
          · have hf := (if_pos hc).symm.trans hf
            refine AW.aload_n dX8_word_60 rfl ?_
            refine AW.ldcS (i := 5) (by decide) rfl dX8_word_61 ?_
            obtain ⟨v6, gv6, hf⟩ := ob_split hf
            refine TW.invv (as := [.ref 7]) (rest := []) viX8_77_8 hs.k35 dX8_word_63 rfl rfl (Nat.le_of_ble_eq_true rfl) (c_X8_reads hs (by decide) gv6 ?_)
            show AW G mX8_word (d + 5) 0 0 K 66 [some (.ref 35)] [.int v6] (I, J, ρ)
            refine AW.if_eq (tgt := 71) dX8_word_66 (by decide) (fun hc => ?_) (fun hc => ?_)
            · have hf := (if_pos hc).symm.trans hf
              refine AW.aload_n dX8_word_71 rfl ?_
              refine AW.ldcS (i := 6) (by decide) rfl dX8_word_72 ?_
              obtain ⟨v7, gv7, hf⟩ := ob_split hf
              refine TW.invv (as := [.ref 8]) (rest := []) viX8_77_8 hs.k35 dX8_word_74 rfl rfl (Nat.le_of_ble_eq_true rfl) (c_X8_reads hs (by decide) gv7 ?_)
              show AW G mX8_word (d + 5) 0 0 K 77 [some (.ref 35)] [.int v7] (I, J, ρ)
              refine AW.if_eq (tgt := 83) dX8_word_77 (by decide) (fun hc => ?_) (fun hc => ?_)
              · have hf := (if_pos hc).symm.trans hf
                refine AW.aload_n dX8_word_83 rfl ?_
                refine AW.ldcS (i := 7) (by decide) rfl dX8_word_84 ?_
                obtain ⟨v8, gv8, hf⟩ := ob_split hf
                refine TW.invv (as := [.ref 9]) (rest := []) viX8_77_8 hs.k35 dX8_word_86 rfl rfl (Nat.le_of_ble_eq_true rfl) (c_X8_reads hs (by decide) gv8 ?_)
                show AW G mX8_word (d + 5) 0 0 K 89 [some (.ref 35)] [.int v8] (I, J, ρ)
                refine AW.if_eq (tgt := 95) dX8_word_89 (by decide) (fun hc => ?_) (fun hc => ?_)
                · have hf := (if_pos hc).symm.trans hf
                  refine AW.aload_n dX8_word_95 rfl ?_
                  refine AW.ldcS (i := 8) (by decide) rfl dX8_word_96 ?_
                  obtain ⟨v9, gv9, hf⟩ := ob_split hf
                  refine TW.invv (as := [.ref 10]) (rest := []) viX8_77_8 hs.k35 dX8_word_98 rfl rfl (Nat.le_of_ble_eq_true rfl) (c_X8_reads hs (by decide) gv9 ?_)
                  show AW G mX8_word (d + 5) 0 0 K 101 [some (.ref 35)] [.int v9] (I, J, ρ)
                  refine AW.if_eq (tgt := 107) dX8_word_101 (by decide) (fun hc => ?_) (fun hc => ?_)
                  · have hf := (if_pos hc).symm.trans hf
                    refine AW.aload_n dX8_word_107 rfl ?_
                    refine AW.ldcS (i := 9) (by decide) rfl dX8_word_108 ?_
                    obtain ⟨v10, gv10, hf⟩ := ob_split hf
                    refine TW.invv (as := [.ref 11]) (rest := []) viX8_77_8 hs.k35 dX8_word_110 rfl rfl (Nat.le_of_ble_eq_true rfl) (c_X8_reads hs (by decide) gv10 ?_)
                    show AW G mX8_word (d + 5) 0 0 K 113 [some (.ref 35)] [.int v10] (I, J, ρ)
                    refine AW.if_eq (tgt := 119) dX8_word_113 (by decide) (fun hc => ?_) (fun hc => ?_)
                    · have hf := (if_pos hc).symm.trans hf
                      refine AW.aload_n dX8_word_119 rfl ?_
                      refine AW.ldcS (i := 10) (by decide) rfl dX8_word_120 ?_
                      obtain ⟨v11, gv11, hf⟩ := ob_split hf
                      refine TW.invv (as := [.ref 12]) (rest := []) viX8_77_8 hs.k35 dX8_word_122 rfl rfl (Nat.le_of_ble_eq_true rfl) (c_X8_reads hs (by decide) gv11 ?_)
                      show AW G mX8_word (d + 5) 0 0 K 125 [some (.ref 35)] [.int v11] (I, J, ρ)
                      refine AW.if_eq (tgt := 133) dX8_word_125 (by decide) (fun hc => ?_) (fun hc => ?_)
                      · have hf := (if_pos hc).symm.trans hf
                        refine AW.bipush (v := (-22 : Int32)) dX8_word_133 (by decide) ?_
                        obtain rfl := Option.some.inj hf
                        exact AW.iret (st := []) dX8_word_135 rfl hK
                      · have hf := (if_neg hc).symm.trans hf
                        refine AW.bipush (v := (-6 : Int32)) dX8_word_128 (by decide) ?_
                        refine AW.goto (tgt := 135) dX8_word_130 (by decide) ?_
                        obtain rfl := Option.some.inj hf
                        exact AW.iret (st := []) dX8_word_135 rfl hK
                    · have hf := (if_neg hc).symm.trans hf
                      refine AW.bipush (v := (-5 : Int32)) dX8_word_116 (by decide) ?_
                      obtain rfl := Option.some.inj hf
                      exact AW.iret (st := []) dX8_word_118 rfl hK
                  · have hf := (if_neg hc).symm.trans hf
                    refine AW.bipush (v := (-4 : Int32)) dX8_word_104 (by decide) ?_
                    obtain rfl := Option.some.inj hf
                    exact AW.iret (st := []) dX8_word_106 rfl hK
                · have hf := (if_neg hc).symm.trans hf
                  refine AW.bipush (v := (-3 : Int32)) dX8_word_92 (by decide) ?_
                  obtain rfl := Option.some.inj hf
                  exact AW.iret (st := []) dX8_word_94 rfl hK
              · have hf := (if_neg hc).symm.trans hf
                refine AW.bipush (v := (-2 : Int32)) dX8_word_80 (by decide) ?_
                obtain rfl := Option.some.inj hf
                exact AW.iret (st := []) dX8_word_82 rfl hK
            · have hf := (if_neg hc).symm.trans hf
              refine AW.iconst (v := (-1 : Int32)) dX8_word_69 (by decide) ?_
              obtain rfl := Option.some.inj hf
              exact AW.iret (st := []) dX8_word_70 rfl hK
          · have hf := (if_neg hc).symm.trans hf
            refine AW.bipush (v := (-8 : Int32)) dX8_word_57 (by decide) ?_
            obtain rfl := Option.some.inj hf
            exact AW.iret (st := []) dX8_word_59 rfl hK
        · have hf := (if_neg hc).symm.trans hf
          refine AW.bipush (v := (-10 : Int32)) dX8_word_45 (by decide) ?_
          obtain rfl := Option.some.inj hf
          exact AW.iret (st := []) dX8_word_47 rfl hK
      · have hf := (if_neg hc).symm.trans hf
        refine AW.bipush (v := (-9 : Int32)) dX8_word_33 (by decide) ?_
        obtain rfl := Option.some.inj hf
        exact AW.iret (st := []) dX8_word_35 rfl hK
    · have hf := (if_neg hc).symm.trans hf
      refine AW.bipush (v := (-17 : Int32)) dX8_word_21 (by decide) ?_
      obtain rfl := Option.some.inj hf
      exact AW.iret (st := []) dX8_word_23 rfl hK
  · have hf := (if_neg hc).symm.trans hf
    refine AW.bipush (v := (-16 : Int32)) dX8_word_9 (by decide) ?_
    obtain rfl := Option.some.inj hf
    exact AW.iret (st := []) dX8_word_11 rfl hK
def f_X8_next_8 (N : Nat) (J : Nat → Nat → Int64) (ρ : Rh) : Nat → (Nat → Nat → Int32) → Option ((Nat → Nat → Int32))
  | 0, _ => none
  | n + 1, I1 => (if ((I1 35 1) ≤ (I1 35 6)) then some I1 else (if ¬ ((I1 35 6) < 0 ∨ 160 ≤ tn (I1 35 6)) then (if ((I1 36 (tn (I1 35 6))) = (32 : Int32)) then f_X8_next_8 N J ρ n (u2 I1 35 6 ((I1 35 6) + (1 : Int32))) else (if ¬ ((I1 35 6) < 0 ∨ 160 ≤ tn (I1 35 6)) then (if ((I1 36 (tn (I1 35 6))) = (10 : Int32)) then f_X8_next_8 N J ρ n (u2 I1 35 6 ((I1 35 6) + (1 : Int32))) else some I1) else none)) else none))
theorem l_X8_next_8 {G : Gd} {d N : Nat} {K : Ah → Option Value → Prop} {J : Nat → Nat → Int64} {ρ : Rh} (hs : Sh ρ) {o : (Nat → Nat → Int32)} : ∀ (n : Nat) (I1 : Nat → Nat → Int32), f_X8_next_8 N J ρ n I1 = some o → AW G mX8_next (d + 6) 0 0 K 60 [some (.ref 35)] [] (o, J, ρ) → AW G mX8_next (d + 6) 0 0 K 8 [some (.ref 35)] [] (I1, J, ρ) := by
  intro n
  induction n with
  | zero => intro I1 hf hE; rw [f_X8_next_8.eq_1] at hf; cases hf
  | succ n ih =>
    intro I1 hf hE
    rw [f_X8_next_8.eq_2] at hf
    refine AW.aload_n dX8_next_8 rfl ?_
    refine TW.getI (x := (I1 35 6)) fX8_56_8 hs.k35 rfl dX8_next_9 ?_
    refine AW.aload_n dX8_next_12 rfl ?_
    refine TW.getI (x := (I1 35 1)) fX8_19_8 hs.k35 rfl dX8_next_13 ?_
    refine AW.icmp_ge (tgt := 60) dX8_next_16 (by decide) (fun hc => ?_) (fun hc => ?_)
    · have hf := (if_pos hc).symm.trans hf
      obtain rfl := Option.some.inj hf
      exact AW.weak _ (by exact (And.intro rfl trivial)) hE
    · have hf := (if_neg hc).symm.trans hf
      refine AW.aload_n dX8_next_19 rfl ?_
      refine TW.getR fX8_9_8 hs.k35 (rf_some hs.r35_0) dX8_next_20 ?_
      refine AW.aload_n dX8_next_23 rfl ?_
      refine TW.getI (x := (I1 35 6)) fX8_56_8 hs.k35 rfl dX8_next_24 ?_
      obtain ⟨h2, hf⟩ := gd_split hf
      refine TW.bald (x := (I1 36 (tn (I1 35 6)))) hs.k36 h2 rfl dX8_next_27 ?_
      refine AW.bipush (v := (32 : Int32)) dX8_next_28 (by decide) ?_
      refine AW.icmp_eq (tgt := 47) dX8_next_30 (by decide) (fun hc => ?_) (fun hc => ?_)
      · have hf := (if_pos hc).symm.trans hf
        refine AW.aload_n dX8_next_47 rfl ?_
        refine AW.dup dX8_next_48 rfl ?_
        refine TW.getI (x := (I1 35 6)) fX8_56_8 hs.k35 rfl dX8_next_49 ?_
        refine AW.iconst (v := (1 : Int32)) dX8_next_52 (by decide) ?_
        refine AW.iadd dX8_next_53 ?_
        refine TW.putI fX8_56_8 hs.k35 (Or.inl rfl) dX8_next_54 ?_
        show AW G mX8_next (d + 6) 0 0 K 57 [some (.ref 35)] [] ((u2 I1 35 6 ((I1 35 6) + (1 : Int32))), J, ρ)
        refine AW.goto (tgt := 8) dX8_next_57 (by decide) ?_
        exact AW.weak _ (by exact (And.intro rfl trivial)) (ih (u2 I1 35 6 ((I1 35 6) + (1 : Int32))) hf hE)
      · have hf := (if_neg hc).symm.trans hf
        refine AW.aload_n dX8_next_33 rfl ?_
        refine TW.getR fX8_9_8 hs.k35 (rf_some hs.r35_0) dX8_next_34 ?_
        refine AW.aload_n dX8_next_37 rfl ?_
        refine TW.getI (x := (I1 35 6)) fX8_56_8 hs.k35 rfl dX8_next_38 ?_
        obtain ⟨h3, hf⟩ := gd_split hf
        refine TW.bald (x := (I1 36 (tn (I1 35 6)))) hs.k36 h3 rfl dX8_next_41 ?_
        refine AW.bipush (v := (10 : Int32)) dX8_next_42 (by decide) ?_
        refine AW.icmp_ne (tgt := 60) dX8_next_44 (by decide) (fun hc => ?_) (fun hc => ?_)
        · have hf := (if_neg hc).symm.trans hf
          obtain rfl := Option.some.inj hf
          exact AW.weak _ (by exact (And.intro rfl trivial)) hE
        · have hf := (if_pos hc).symm.trans hf
          refine AW.aload_n dX8_next_47 rfl ?_
          refine AW.dup dX8_next_48 rfl ?_
          refine TW.getI (x := (I1 35 6)) fX8_56_8 hs.k35 rfl dX8_next_49 ?_
          refine AW.iconst (v := (1 : Int32)) dX8_next_52 (by decide) ?_
          refine AW.iadd dX8_next_53 ?_
          refine TW.putI fX8_56_8 hs.k35 (Or.inl rfl) dX8_next_54 ?_
          show AW G mX8_next (d + 6) 0 0 K 57 [some (.ref 35)] [] ((u2 I1 35 6 ((I1 35 6) + (1 : Int32))), J, ρ)
          refine AW.goto (tgt := 8) dX8_next_57 (by decide) ?_
          exact AW.weak _ (by exact (And.intro rfl trivial)) (ih (u2 I1 35 6 ((I1 35 6) + (1 : Int32))) hf hE)
def f_X8_next_86 (N : Nat) (J : Nat → Nat → Int64) (ρ : Rh) : Nat → (Nat → Nat → Int32) → Option ((Nat → Nat → Int32))
  | 0, _ => none
  | n + 1, I5 => (if ((I5 35 1) ≤ (I5 35 7)) then some I5 else (if ¬ ((I5 35 7) < 0 ∨ 160 ≤ tn (I5 35 7)) then (Option.bind (f_X8_isLetter N ρ I5 J (I5 36 (tn (I5 35 7)))) fun v7 => (if (v7 = (0 : Int32)) then some I5 else f_X8_next_86 N J ρ n (u2 I5 35 7 ((I5 35 7) + (1 : Int32))))) else none))
theorem l_X8_next_86 {G : Gd} {d N : Nat} {K : Ah → Option Value → Prop} {J : Nat → Nat → Int64} {ρ : Rh} (hs : Sh ρ) {o : (Nat → Nat → Int32)} : ∀ (n : Nat) (I5 : Nat → Nat → Int32), f_X8_next_86 N J ρ n I5 = some o → AW G mX8_next (d + 6) 0 0 K 125 [some (.ref 35)] [] (o, J, ρ) → AW G mX8_next (d + 6) 0 0 K 86 [some (.ref 35)] [] (I5, J, ρ) := by
  intro n
  induction n with
  | zero => intro I5 hf hE; rw [f_X8_next_86.eq_1] at hf; cases hf
  | succ n ih =>
    intro I5 hf hE
    rw [f_X8_next_86.eq_2] at hf
    refine AW.aload_n dX8_next_86 rfl ?_
    refine TW.getI (x := (I5 35 7)) fX8_29_8 hs.k35 rfl dX8_next_87 ?_
    refine AW.aload_n dX8_next_90 rfl ?_
    refine TW.getI (x := (I5 35 1)) fX8_19_8 hs.k35 rfl dX8_next_91 ?_
    refine AW.icmp_ge (tgt := 125) dX8_next_94 (by decide) (fun hc => ?_) (fun hc => ?_)
    · have hf := (if_pos hc).symm.trans hf
      obtain rfl := Option.some.inj hf
      exact AW.weak _ (by exact (And.intro rfl trivial)) hE
    · have hf := (if_neg hc).symm.trans hf
      refine AW.aload_n dX8_next_97 rfl ?_
      refine TW.getR fX8_9_8 hs.k35 (rf_some hs.r35_0) dX8_next_98 ?_
      refine AW.aload_n dX8_next_101 rfl ?_
      refine TW.getI (x := (I5 35 7)) fX8_29_8 hs.k35 rfl dX8_next_102 ?_
      obtain ⟨h6, hf⟩ := gd_split hf
      refine TW.bald (x := (I5 36 (tn (I5 35 7)))) hs.k36 h6 rfl dX8_next_105 ?_
      obtain ⟨v7, gv7, hf⟩ := ob_split hf
      refine TW.invs (as := [.int (I5 36 (tn (I5 35 7)))]) (rest := []) stX8_59 dX8_next_106 rfl rfl (Nat.le_of_ble_eq_true rfl) (c_X8_isLetter hs gv7 ?_)
      show AW G mX8_next (d + 6) 0 0 K 109 [some (.ref 35)] [.int v7] (I5, J, ρ)
      refine AW.if_eq (tgt := 125) dX8_next_109 (by decide) (fun hc => ?_) (fun hc => ?_)
      · have hf := (if_pos hc).symm.trans hf
        obtain rfl := Option.some.inj hf
        exact AW.weak _ (by exact (And.intro rfl trivial)) hE
      · have hf := (if_neg hc).symm.trans hf
        refine AW.aload_n dX8_next_112 rfl ?_
        refine AW.dup dX8_next_113 rfl ?_
        refine TW.getI (x := (I5 35 7)) fX8_29_8 hs.k35 rfl dX8_next_114 ?_
        refine AW.iconst (v := (1 : Int32)) dX8_next_117 (by decide) ?_
        refine AW.iadd dX8_next_118 ?_
        refine TW.putI fX8_29_8 hs.k35 (Or.inl rfl) dX8_next_119 ?_
        show AW G mX8_next (d + 6) 0 0 K 122 [some (.ref 35)] [] ((u2 I5 35 7 ((I5 35 7) + (1 : Int32))), J, ρ)
        refine AW.goto (tgt := 86) dX8_next_122 (by decide) ?_
        exact AW.weak _ (by exact (And.intro rfl trivial)) (ih (u2 I5 35 7 ((I5 35 7) + (1 : Int32))) hf hE)
def f_X8_next_145 (N : Nat) (J : Nat → Nat → Int64) (ρ : Rh) : Nat → (Nat → Nat → Int32) → Option ((Nat → Nat → Int32))
  | 0, _ => none
  | n + 1, I10 => (if ((I10 35 1) ≤ (I10 35 7)) then some I10 else (if ¬ ((I10 35 7) < 0 ∨ 160 ≤ tn (I10 35 7)) then (Option.bind (f_X8_isDigit N ρ I10 J (I10 36 (tn (I10 35 7)))) fun v12 => (if (v12 = (0 : Int32)) then some I10 else f_X8_next_145 N J ρ n (u2 I10 35 7 ((I10 35 7) + (1 : Int32))))) else none))
theorem l_X8_next_145 {G : Gd} {d N : Nat} {K : Ah → Option Value → Prop} {J : Nat → Nat → Int64} {ρ : Rh} (hs : Sh ρ) {o : (Nat → Nat → Int32)} : ∀ (n : Nat) (I10 : Nat → Nat → Int32), f_X8_next_145 N J ρ n I10 = some o → AW G mX8_next (d + 6) 0 0 K 184 [some (.ref 35)] [] (o, J, ρ) → AW G mX8_next (d + 6) 0 0 K 145 [some (.ref 35)] [] (I10, J, ρ) := by
  intro n
  induction n with
  | zero => intro I10 hf hE; rw [f_X8_next_145.eq_1] at hf; cases hf
  | succ n ih =>
    intro I10 hf hE
    rw [f_X8_next_145.eq_2] at hf
    refine AW.aload_n dX8_next_145 rfl ?_
    refine TW.getI (x := (I10 35 7)) fX8_29_8 hs.k35 rfl dX8_next_146 ?_
    refine AW.aload_n dX8_next_149 rfl ?_
    refine TW.getI (x := (I10 35 1)) fX8_19_8 hs.k35 rfl dX8_next_150 ?_
    refine AW.icmp_ge (tgt := 184) dX8_next_153 (by decide) (fun hc => ?_) (fun hc => ?_)
    · have hf := (if_pos hc).symm.trans hf
      obtain rfl := Option.some.inj hf
      exact AW.weak _ (by exact (And.intro rfl trivial)) hE
    · have hf := (if_neg hc).symm.trans hf
      refine AW.aload_n dX8_next_156 rfl ?_
      refine TW.getR fX8_9_8 hs.k35 (rf_some hs.r35_0) dX8_next_157 ?_
      refine AW.aload_n dX8_next_160 rfl ?_
      refine TW.getI (x := (I10 35 7)) fX8_29_8 hs.k35 rfl dX8_next_161 ?_
      obtain ⟨h11, hf⟩ := gd_split hf
      refine TW.bald (x := (I10 36 (tn (I10 35 7)))) hs.k36 h11 rfl dX8_next_164 ?_
      obtain ⟨v12, gv12, hf⟩ := ob_split hf
      refine TW.invs (as := [.int (I10 36 (tn (I10 35 7)))]) (rest := []) stX8_66 dX8_next_165 rfl rfl (Nat.le_of_ble_eq_true rfl) (c_X8_isDigit hs gv12 ?_)
      show AW G mX8_next (d + 6) 0 0 K 168 [some (.ref 35)] [.int v12] (I10, J, ρ)
      refine AW.if_eq (tgt := 184) dX8_next_168 (by decide) (fun hc => ?_) (fun hc => ?_)
      · have hf := (if_pos hc).symm.trans hf
        obtain rfl := Option.some.inj hf
        exact AW.weak _ (by exact (And.intro rfl trivial)) hE
      · have hf := (if_neg hc).symm.trans hf
        refine AW.aload_n dX8_next_171 rfl ?_
        refine AW.dup dX8_next_172 rfl ?_
        refine TW.getI (x := (I10 35 7)) fX8_29_8 hs.k35 rfl dX8_next_173 ?_
        refine AW.iconst (v := (1 : Int32)) dX8_next_176 (by decide) ?_
        refine AW.iadd dX8_next_177 ?_
        refine TW.putI fX8_29_8 hs.k35 (Or.inl rfl) dX8_next_178 ?_
        show AW G mX8_next (d + 6) 0 0 K 181 [some (.ref 35)] [] ((u2 I10 35 7 ((I10 35 7) + (1 : Int32))), J, ρ)
        refine AW.goto (tgt := 145) dX8_next_181 (by decide) ?_
        exact AW.weak _ (by exact (And.intro rfl trivial)) (ih (u2 I10 35 7 ((I10 35 7) + (1 : Int32))) hf hE)
def f_X8_next (N : Nat) (ρ : Rh) (I : Nat → Nat → Int32) (J : Nat → Nat → Int64) : Option ((Nat → Nat → Int32)) := ((f_X8_next_8 N J ρ N (u2 I 35 6 (I 35 7))).bind fun j4 => (if ((j4 35 6) < (j4 35 1)) then ((f_X8_next_86 N J ρ N (u2 j4 35 7 (j4 35 6))).bind fun j8 => (if ((j8 35 7) ≤ (j8 35 6)) then ((f_X8_next_145 N J ρ N j8).bind fun j13 => (if ((j13 35 7) ≤ (j13 35 6)) then (if ¬ ((j13 35 6) < 0 ∨ 160 ≤ tn (j13 35 6)) then (Option.bind (f_X8_sign N ρ (u2 j13 35 7 ((j13 35 7) + (1 : Int32))) J (j13 36 (tn (j13 35 6)))) fun v16 => some (u2 (u2 j13 35 7 ((j13 35 7) + (1 : Int32))) 35 5 v16)) else none) else (Option.bind (f_X8_number N ρ j13 J) fun v14 => some (u2 j13 35 5 v14)))) else (Option.bind (f_X8_word N ρ j8 J) fun v9 => some (u2 j8 35 5 v9)))) else some (u2 (u2 j4 35 7 (j4 35 6)) 35 5 (-21 : Int32))))
theorem c_X8_next {G : Gd} {d N : Nat} {K : Ah → Option Value → Prop} {ρ : Rh} {I : Nat → Nat → Int32} {J : Nat → Nat → Int64} {o : (Nat → Nat → Int32)} (hs : Sh ρ) (hf : f_X8_next N ρ I J = some o) (hK : K (o, J, ρ) none) : AM G (d + 6) 0 0 mX8_next [.ref 35] (I, J, ρ) K := by
  unfold f_X8_next at hf
  refine AM.intro okX8_next.2.2.2.1 (Nat.le_of_ble_eq_true rfl) [some (.ref 35)] rfl ?_
  refine AW.aload_n dX8_next_0 rfl ?_
  refine AW.aload_n dX8_next_1 rfl ?_
  refine TW.getI (x := (I 35 7)) fX8_29_8 hs.k35 rfl dX8_next_2 ?_
  refine TW.putI fX8_56_8 hs.k35 (Or.inl rfl) dX8_next_5 ?_
  show AW G mX8_next (d + 6) 0 0 K 8 [some (.ref 35)] [] ((u2 I 35 6 (I 35 7)), J, ρ)
  obtain ⟨j4, gj4, hf⟩ := ob_split hf
  refine AW.weak _ (by exact (And.intro rfl trivial)) (l_X8_next_8 hs N (u2 I 35 6 (I 35 7)) gj4 ?_)
  show AW G mX8_next (d + 6) 0 0 K 60 [some (.ref 35)] [] (j4, J, ρ)
  refine AW.aload_n dX8_next_60 rfl ?_
  refine AW.aload_n dX8_next_61 rfl ?_
  refine TW.getI (x := (j4 35 6)) fX8_56_8 hs.k35 rfl dX8_next_62 ?_
  refine TW.putI fX8_29_8 hs.k35 (Or.inl rfl) dX8_next_65 ?_
  show AW G mX8_next (d + 6) 0 0 K 68 [some (.ref 35)] [] ((u2 j4 35 7 (j4 35 6)), J, ρ)
  refine AW.aload_n dX8_next_68 rfl ?_
  refine TW.getI (x := (j4 35 6)) fX8_56_8 hs.k35 (u2_nk (by decide)) dX8_next_69 ?_
  refine AW.aload_n dX8_next_72 rfl ?_
  refine TW.getI (x := (j4 35 1)) fX8_19_8 hs.k35 (u2_nk (by decide)) dX8_next_73 ?_
  refine AW.icmp_lt (tgt := 86) dX8_next_76 (by decide) (fun hc => ?_) (fun hc => ?_)
  · have hf := (if_pos hc).symm.trans hf
    obtain ⟨j8, gj8, hf⟩ := ob_split hf
    refine AW.weak _ (by exact (And.intro rfl trivial)) (l_X8_next_86 hs N (u2 j4 35 7 (j4 35 6)) gj8 ?_)
    show AW G mX8_next (d + 6) 0 0 K 125 [some (.ref 35)] [] (j8, J, ρ)
    refine AW.aload_n dX8_next_125 rfl ?_
    refine TW.getI (x := (j8 35 7)) fX8_29_8 hs.k35 rfl dX8_next_126 ?_
    refine AW.aload_n dX8_next_129 rfl ?_
    refine TW.getI (x := (j8 35 6)) fX8_56_8 hs.k35 rfl dX8_next_130 ?_
    refine AW.icmp_le (tgt := 145) dX8_next_133 (by decide) (fun hc => ?_) (fun hc => ?_)
    · have hf := (if_pos hc).symm.trans hf
      obtain ⟨j13, gj13, hf⟩ := ob_split hf
      refine AW.weak _ (by exact (And.intro rfl trivial)) (l_X8_next_145 hs N j8 gj13 ?_)
      show AW G mX8_next (d + 6) 0 0 K 184 [some (.ref 35)] [] (j13, J, ρ)
      refine AW.aload_n dX8_next_184 rfl ?_
      refine TW.getI (x := (j13 35 7)) fX8_29_8 hs.k35 rfl dX8_next_185 ?_
      refine AW.aload_n dX8_next_188 rfl ?_
      refine TW.getI (x := (j13 35 6)) fX8_56_8 hs.k35 rfl dX8_next_189 ?_
      refine AW.icmp_le (tgt := 204) dX8_next_192 (by decide) (fun hc => ?_) (fun hc => ?_)
      · have hf := (if_pos hc).symm.trans hf
        refine AW.aload_n dX8_next_204 rfl ?_
        refine AW.dup dX8_next_205 rfl ?_
        refine TW.getI (x := (j13 35 7)) fX8_29_8 hs.k35 rfl dX8_next_206 ?_
        refine AW.iconst (v := (1 : Int32)) dX8_next_209 (by decide) ?_
        refine AW.iadd dX8_next_210 ?_
        refine TW.putI fX8_29_8 hs.k35 (Or.inl rfl) dX8_next_211 ?_
        show AW G mX8_next (d + 6) 0 0 K 214 [some (.ref 35)] [] ((u2 j13 35 7 ((j13 35 7) + (1 : Int32))), J, ρ)
        refine AW.aload_n dX8_next_214 rfl ?_
        refine AW.aload_n dX8_next_215 rfl ?_
        refine TW.getR fX8_9_8 hs.k35 (rf_some hs.r35_0) dX8_next_216 ?_
        refine AW.aload_n dX8_next_219 rfl ?_
        refine TW.getI (x := (j13 35 6)) fX8_56_8 hs.k35 (u2_nk (by decide)) dX8_next_220 ?_
        obtain ⟨h15, hf⟩ := gd_split hf
        refine TW.bald (x := (j13 36 (tn (j13 35 6)))) hs.k36 h15 (u2_ne (by decide)) dX8_next_223 ?_
        obtain ⟨v16, gv16, hf⟩ := ob_split hf
        refine TW.invs (as := [.int (j13 36 (tn (j13 35 6)))]) (rest := [.ref 35]) stX8_72 dX8_next_224 rfl rfl (Nat.le_of_ble_eq_true rfl) (c_X8_sign hs gv16 ?_)
        show AW G mX8_next (d + 6) 0 0 K 227 [some (.ref 35)] [.int v16, .ref 35] ((u2 j13 35 7 ((j13 35 7) + (1 : Int32))), J, ρ)
        refine TW.putI fX8_43_8 hs.k35 (Or.inl rfl) dX8_next_227 ?_
        show AW G mX8_next (d + 6) 0 0 K 230 [some (.ref 35)] [] ((u2 (u2 j13 35 7 ((j13 35 7) + (1 : Int32))) 35 5 v16), J, ρ)
        obtain rfl := Option.some.inj hf
        exact AW.vret (st := []) dX8_next_230 rfl hK
      · have hf := (if_neg hc).symm.trans hf
        refine AW.aload_n dX8_next_195 rfl ?_
        refine AW.aload_n dX8_next_196 rfl ?_
        obtain ⟨v14, gv14, hf⟩ := ob_split hf
        refine TW.invv (as := []) (rest := [.ref 35]) viX8_69_8 hs.k35 dX8_next_197 rfl rfl (Nat.le_of_ble_eq_true rfl) (c_X8_number hs gv14 ?_)
        show AW G mX8_next (d + 6) 0 0 K 200 [some (.ref 35)] [.int v14, .ref 35] (j13, J, ρ)
        refine TW.putI fX8_43_8 hs.k35 (Or.inl rfl) dX8_next_200 ?_
        show AW G mX8_next (d + 6) 0 0 K 203 [some (.ref 35)] [] ((u2 j13 35 5 v14), J, ρ)
        obtain rfl := Option.some.inj hf
        exact AW.vret (st := []) dX8_next_203 rfl hK
    · have hf := (if_neg hc).symm.trans hf
      refine AW.aload_n dX8_next_136 rfl ?_
      refine AW.aload_n dX8_next_137 rfl ?_
      obtain ⟨v9, gv9, hf⟩ := ob_split hf
      refine TW.invv (as := []) (rest := [.ref 35]) viX8_62_8 hs.k35 dX8_next_138 rfl rfl (Nat.le_of_ble_eq_true rfl) (c_X8_word hs gv9 ?_)
      show AW G mX8_next (d + 6) 0 0 K 141 [some (.ref 35)] [.int v9, .ref 35] (j8, J, ρ)
      refine TW.putI fX8_43_8 hs.k35 (Or.inl rfl) dX8_next_141 ?_
      show AW G mX8_next (d + 6) 0 0 K 144 [some (.ref 35)] [] ((u2 j8 35 5 v9), J, ρ)
      obtain rfl := Option.some.inj hf
      exact AW.vret (st := []) dX8_next_144 rfl hK
  · have hf := (if_neg hc).symm.trans hf
    refine AW.aload_n dX8_next_79 rfl ?_
    refine AW.bipush (v := (-21 : Int32)) dX8_next_80 (by decide) ?_
    refine TW.putI fX8_43_8 hs.k35 (Or.inl rfl) dX8_next_82 ?_
    show AW G mX8_next (d + 6) 0 0 K 85 [some (.ref 35)] [] ((u2 (u2 j4 35 7 (j4 35 6)) 35 5 (-21 : Int32)), J, ρ)
    obtain rfl := Option.some.inj hf
    exact AW.vret (st := []) dX8_next_85 rfl hK
