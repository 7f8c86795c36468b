/-! ===== methods 14.model 3 ===== -/
def f_X12_puts (N : Nat) (ρ : Rh) (I : Nat → Nat → Int32) (J : Nat → Nat → Int64) (p1 : Int32) : Option ((Nat → Nat → Int32)) := (if ¬ ((((200 : Int32) * (I 89 17)) + (I 89 45)) < 0 ∨ 1200 ≤ tn (((200 : Int32) * (I 89 17)) + (I 89 45))) then some (u2 (u2 I 98 (tn (((200 : Int32) * (I 89 17)) + (I 89 45))) p1) 89 45 ((I 89 45) + (1 : Int32))) else none)
theorem c_X12_puts {G : Gd} {d N : Nat} {K : Ah → Option Value → Prop} {ρ : Rh} {I : Nat → Nat → Int32} {J : Nat → Nat → Int64} {p1 : Int32} {o : (Nat → Nat → Int32)} (hs : Sh ρ) (hf : f_X12_puts N ρ I J p1 = some o) (hK : K (o, J, ρ) none) : AM G d 0 0 mX12_puts [.ref 89, .int p1] (I, J, ρ) K := by
  unfold f_X12_puts at hf
  refine AM.intro okX12_puts.2.2.2.1 (Nat.le_of_ble_eq_true rfl) [some (.ref 89), some (.int p1)] rfl ?_
  refine AW.aload_n dX12_puts_0 rfl ?_
  refine TW.getR fX12_47_12 hs.k89 (rf_some hs.r89_15) dX12_puts_1 ?_
  refine AW.sipush (v := (200 : Int32)) dX12_puts_4 (by decide) ?_
  refine AW.aload_n dX12_puts_7 rfl ?_
  refine TW.getI (x := (I 89 17)) fX12_53_12 hs.k89 rfl dX12_puts_8 ?_
  refine AW.imul dX12_puts_11 ?_
  refine AW.aload_n dX12_puts_12 rfl ?_
  refine TW.getI (x := (I 89 45)) fX12_175_12 hs.k89 rfl dX12_puts_13 ?_
  refine AW.iadd dX12_puts_16 ?_
  refine AW.iload_n dX12_puts_17 rfl ?_
  obtain ⟨h1, hf⟩ := gd_split hf
  refine TW.iast hs.k98 h1 dX12_puts_18 ?_
  show AW G mX12_puts d 0 0 K 19 [some (.ref 89), some (.int p1)] [] ((u2 I 98 (tn (((200 : Int32) * (I 89 17)) + (I 89 45))) p1), J, ρ)
  refine AW.aload_n dX12_puts_19 rfl ?_
  refine AW.dup dX12_puts_20 rfl ?_
  refine TW.getI (x := (I 89 45)) fX12_175_12 hs.k89 (u2_ne (by decide)) dX12_puts_21 ?_
  refine AW.iconst (v := (1 : Int32)) dX12_puts_24 (by decide) ?_
  refine AW.iadd dX12_puts_25 ?_
  refine TW.putI fX12_175_12 hs.k89 (Or.inl rfl) dX12_puts_26 ?_
  show AW G mX12_puts d 0 0 K 29 [some (.ref 89), some (.int p1)] [] ((u2 (u2 I 98 (tn (((200 : Int32) * (I 89 17)) + (I 89 45))) p1) 89 45 ((I 89 45) + (1 : Int32))), J, ρ)
  obtain rfl := Option.some.inj hf
  exact AW.vret (st := []) dX12_puts_29 rfl hK
def f_X12_unwinds_0 (N : Nat) (J : Nat → Nat → Int64) (ρ : Rh) (p1 : Int32) : Nat → (Nat → Nat → Int32) → Option ((Nat → Nat → Int32))
  | 0, _ => none
  | n + 1, I1 => (if ((I1 89 43) ≤ (0 : Int32)) then some I1 else (if ¬ (((I1 89 43) - (1 : Int32)) < 0 ∨ 200 ≤ tn ((I1 89 43) - (1 : Int32))) then (Option.bind (f_X12_rank N ρ I1 J (I1 111 (tn ((I1 89 43) - (1 : Int32))))) fun v3 => (if (v3 < p1) then some I1 else (if ¬ (((I1 89 43) - (1 : Int32)) < 0 ∨ 200 ≤ tn ((I1 89 43) - (1 : Int32))) then (bnd (I1 111 (tn ((I1 89 43) - (1 : Int32)))) fun x5 => (((if (x5 = (13 : Int32)) then some (1 : Int32) else (if (x5 = (19 : Int32)) then some (1 : Int32) else some (0 : Int32))) : Option (Int32)).bind fun j6 => (Option.bind (f_X12_puts N ρ (u2 (u2 I1 89 43 ((I1 89 43) - (1 : Int32))) 89 44 ((I1 89 44) - j6)) J x5) fun v7 => f_X12_unwinds_0 N J ρ p1 n v7))) else none))) else none))
theorem l_X12_unwinds_0 {G : Gd} {d N : Nat} {K : Ah → Option Value → Prop} {J : Nat → Nat → Int64} {ρ : Rh} {p1 : Int32} (hs : Sh ρ) {o : (Nat → Nat → Int32)} : ∀ (n : Nat) (I1 : Nat → Nat → Int32), f_X12_unwinds_0 N J ρ p1 n I1 = some o → AW G mX12_unwinds (d + 1) 0 0 K 79 [none, none, none] [] (o, J, ρ) → AW G mX12_unwinds (d + 1) 0 0 K 0 [some (.ref 89), some (.int p1), none] [] (I1, J, ρ) := by
  intro n
  induction n with
  | zero => intro I1 hf hE; rw [f_X12_unwinds_0.eq_1] at hf; cases hf
  | succ n ih =>
    intro I1 hf hE
    rw [f_X12_unwinds_0.eq_2] at hf
    refine AW.aload_n dX12_unwinds_0 rfl ?_
    refine TW.getI (x := (I1 89 43)) fX12_178_12 hs.k89 rfl dX12_unwinds_1 ?_
    refine AW.if_le (tgt := 79) dX12_unwinds_4 (by decide) (fun hc => ?_) (fun hc => ?_)
    · have hf := (if_pos hc).symm.trans hf
      obtain rfl := Option.some.inj hf
      exact AW.weak _ (by exact trivial) hE
    · have hf := (if_neg hc).symm.trans hf
      refine AW.aload_n dX12_unwinds_7 rfl ?_
      refine TW.getR fX12_112_12 hs.k89 (rf_some hs.r89_42) dX12_unwinds_8 ?_
      refine AW.aload_n dX12_unwinds_11 rfl ?_
      refine TW.getI (x := (I1 89 43)) fX12_178_12 hs.k89 rfl dX12_unwinds_12 ?_
      refine AW.iconst (v := (1 : Int32)) dX12_unwinds_15 (by decide) ?_
      refine AW.isub dX12_unwinds_16 ?_
      obtain ⟨h2, hf⟩ := gd_split hf
      refine TW.iald (x := (I1 111 (tn ((I1 89 43) - (1 : Int32))))) hs.k111 h2 rfl dX12_unwinds_17 ?_
      obtain ⟨v3, gv3, hf⟩ := ob_split hf
      refine TW.invs (as := [.int (I1 111 (tn ((I1 89 43) - (1 : Int32))))]) (rest := []) stX12_181 dX12_unwinds_18 rfl rfl (Nat.le_of_ble_eq_true rfl) (c_X12_rank hs gv3 ?_)
      show AW G mX12_unwinds (d + 1) 0 0 K 21 [some (.ref 89), some (.int p1), none] [.int v3] (I1, J, ρ)
      refine AW.iload_n dX12_unwinds_21 rfl ?_
      refine AW.icmp_lt (tgt := 79) dX12_unwinds_22 (by decide) (fun hc => ?_) (fun hc => ?_)
      · have hf := (if_pos hc).symm.trans hf
        obtain rfl := Option.some.inj hf
        exact AW.weak _ (by exact trivial) hE
      · have hf := (if_neg hc).symm.trans hf
        refine AW.aload_n dX12_unwinds_25 rfl ?_
        refine AW.dup dX12_unwinds_26 rfl ?_
        refine TW.getI (x := (I1 89 43)) fX12_178_12 hs.k89 rfl dX12_unwinds_27 ?_
        refine AW.iconst (v := (1 : Int32)) dX12_unwinds_30 (by decide) ?_
        refine AW.isub dX12_unwinds_31 ?_
        refine TW.putI fX12_178_12 hs.k89 (Or.inl rfl) dX12_unwinds_32 ?_
        show AW G mX12_unwinds (d + 1) 0 0 K 35 [some (.ref 89), some (.int p1), none] [] ((u2 I1 89 43 ((I1 89 43) - (1 : Int32))), J, ρ)
        refine AW.aload_n dX12_unwinds_35 rfl ?_
        refine TW.getR fX12_112_12 hs.k89 (rf_some hs.r89_42) dX12_unwinds_36 ?_
        refine AW.aload_n dX12_unwinds_39 rfl ?_
        refine TW.getI (x := ((I1 89 43) - (1 : Int32))) fX12_178_12 hs.k89 u2_eq dX12_unwinds_40 ?_
        obtain ⟨h4, hf⟩ := gd_split hf
        refine TW.iald (x := (I1 111 (tn ((I1 89 43) - (1 : Int32))))) hs.k111 h4 (u2_ne (by decide)) dX12_unwinds_43 ?_
        obtain ⟨x5, gx5, hf⟩ := bnd_one hf
        refine AW.nmI gx5 ?_
        refine AW.istore_n (ls' := [some (.ref 89), some (.int p1), some (.int x5)]) dX12_unwinds_44 (Nat.le_of_ble_eq_true rfl) rfl ?_
        refine AW.aload_n dX12_unwinds_45 rfl ?_
        refine AW.dup dX12_unwinds_46 rfl ?_
        refine TW.getI (x := (I1 89 44)) fX12_184_12 hs.k89 (u2_nk (by decide)) dX12_unwinds_47 ?_
        refine AW.iload_n dX12_unwinds_50 rfl ?_
        refine AW.bipush (v := (13 : Int32)) dX12_unwinds_51 (by decide) ?_
        obtain ⟨j6, gj6, hf⟩ := ob_split hf
        have Kj6 : AW G mX12_unwinds (d + 1) 0 0 K 67 [some (.ref 89), some (.int p1), some (.int x5)] [.int j6, .int (I1 89 44), .ref 89] ((u2 I1 89 43 ((I1 89 43) - (1 : Int32))), J, ρ) := by
          refine AW.isub dX12_unwinds_67 ?_
          refine TW.putI fX12_184_12 hs.k89 (Or.inl rfl) dX12_unwinds_68 ?_
          show AW G mX12_unwinds (d + 1) 0 0 K 71 [some (.ref 89), some (.int p1), some (.int x5)] [] ((u2 (u2 I1 89 43 ((I1 89 43) - (1 : Int32))) 89 44 ((I1 89 44) - j6)), J, ρ)
          refine AW.aload_n dX12_unwinds_71 rfl ?_
          refine AW.iload_n dX12_unwinds_72 rfl ?_
          obtain ⟨v7, gv7, hf⟩ := ob_split hf
          refine TW.invv (as := [.int x5]) (rest := []) viX12_187_12 hs.k89 dX12_unwinds_73 rfl rfl (Nat.le_of_ble_eq_true rfl) (c_X12_puts hs gv7 ?_)
          show AW G mX12_unwinds (d + 1) 0 0 K 76 [some (.ref 89), some (.int p1), some (.int x5)] [] (v7, J, ρ)
          refine AW.goto (tgt := 0) dX12_unwinds_76 (by decide) ?_
          exact AW.weak _ (by exact (And.intro rfl (And.intro rfl trivial))) (ih v7 hf hE)
        clear hf; have hf := gj6; clear gj6
        refine AW.icmp_eq (tgt := 62) dX12_unwinds_53 (by decide) (fun hc => ?_) (fun hc => ?_)
        · have hf := (if_pos hc).symm.trans hf
          refine AW.iconst (v := (1 : Int32)) dX12_unwinds_62 (by decide) ?_
          refine AW.goto (tgt := 67) dX12_unwinds_63 (by decide) ?_
          obtain rfl := Option.some.inj hf
          exact AW.weak _ (by exact (And.intro rfl (And.intro rfl (And.intro rfl trivial)))) Kj6
        · have hf := (if_neg hc).symm.trans hf
          refine AW.iload_n dX12_unwinds_56 rfl ?_
          refine AW.bipush (v := (19 : Int32)) dX12_unwinds_57 (by decide) ?_
          refine AW.icmp_ne (tgt := 66) dX12_unwinds_59 (by decide) (fun hc => ?_) (fun hc => ?_)
          · have hf := (if_neg hc).symm.trans hf
            refine AW.iconst (v := (0 : Int32)) dX12_unwinds_66 (by decide) ?_
            obtain rfl := Option.some.inj hf
            exact AW.weak _ (by exact (And.intro rfl (And.intro rfl (And.intro rfl trivial)))) Kj6
          · have hf := (if_pos hc).symm.trans hf
            refine AW.iconst (v := (1 : Int32)) dX12_unwinds_62 (by decide) ?_
            refine AW.goto (tgt := 67) dX12_unwinds_63 (by decide) ?_
            obtain rfl := Option.some.inj hf
            exact AW.weak _ (by exact (And.intro rfl (And.intro rfl (And.intro rfl trivial)))) Kj6
def f_X12_unwinds (N : Nat) (ρ : Rh) (I : Nat → Nat → Int32) (J : Nat → Nat → Int64) (p1 : Int32) : Option ((Nat → Nat → Int32)) := ((f_X12_unwinds_0 N J ρ p1 N I).bind fun j8 => some j8)
theorem c_X12_unwinds {G : Gd} {d N : Nat} {K : Ah → Option Value → Prop} {ρ : Rh} {I : Nat → Nat → Int32} {J : Nat → Nat → Int64} {p1 : Int32} {o : (Nat → Nat → Int32)} (hs : Sh ρ) (hf : f_X12_unwinds N ρ I J p1 = some o) (hK : K (o, J, ρ) none) : AM G (d + 1) 0 0 mX12_unwinds [.ref 89, .int p1] (I, J, ρ) K := by
  unfold f_X12_unwinds at hf
  refine AM.intro okX12_unwinds.2.2.2.1 (Nat.le_of_ble_eq_true rfl) [some (.ref 89), some (.int p1), none] rfl ?_
  obtain ⟨j8, gj8, hf⟩ := ob_split hf
  refine AW.weak _ (by exact (And.intro rfl (And.intro rfl trivial))) (l_X12_unwinds_0 hs N I gj8 ?_)
  show AW G mX12_unwinds (d + 1) 0 0 K 79 [none, none, none] [] (j8, J, ρ)
  obtain rfl := Option.some.inj hf
  exact AW.vret (st := []) dX12_unwinds_79 rfl hK
def f_X12_holds (N : Nat) (ρ : Rh) (I : Nat → Nat → Int32) (J : Nat → Nat → Int64) (p1 : Int32) : Option ((Nat → Nat → Int32)) := (if ¬ ((I 89 43) < 0 ∨ 200 ≤ tn (I 89 43)) then some (u2 (u2 I 111 (tn (I 89 43)) p1) 89 43 ((I 89 43) + (1 : Int32))) else none)
theorem c_X12_holds {G : Gd} {d N : Nat} {K : Ah → Option Value → Prop} {ρ : Rh} {I : Nat → Nat → Int32} {J : Nat → Nat → Int64} {p1 : Int32} {o : (Nat → Nat → Int32)} (hs : Sh ρ) (hf : f_X12_holds N ρ I J p1 = some o) (hK : K (o, J, ρ) none) : AM G d 0 0 mX12_holds [.ref 89, .int p1] (I, J, ρ) K := by
  unfold f_X12_holds at hf
  refine AM.intro okX12_holds.2.2.2.1 (Nat.le_of_ble_eq_true rfl) [some (.ref 89), some (.int p1)] rfl ?_
  refine AW.aload_n dX12_holds_0 rfl ?_
  refine TW.getR fX12_112_12 hs.k89 (rf_some hs.r89_42) dX12_holds_1 ?_
  refine AW.aload_n dX12_holds_4 rfl ?_
  refine TW.getI (x := (I 89 43)) fX12_178_12 hs.k89 rfl dX12_holds_5 ?_
  refine AW.iload_n dX12_holds_8 rfl ?_
  obtain ⟨h1, hf⟩ := gd_split hf
  refine TW.iast hs.k111 h1 dX12_holds_9 ?_
  show AW G mX12_holds d 0 0 K 10 [some (.ref 89), some (.int p1)] [] ((u2 I 111 (tn (I 89 43)) p1), J, ρ)
  refine AW.aload_n dX12_holds_10 rfl ?_
  refine AW.dup dX12_holds_11 rfl ?_
  refine TW.getI (x := (I 89 43)) fX12_178_12 hs.k89 (u2_ne (by decide)) dX12_holds_12 ?_
  refine AW.iconst (v := (1 : Int32)) dX12_holds_15 (by decide) ?_
  refine AW.iadd dX12_holds_16 ?_
  refine TW.putI fX12_178_12 hs.k89 (Or.inl rfl) dX12_holds_17 ?_
  show AW G mX12_holds d 0 0 K 20 [some (.ref 89), some (.int p1)] [] ((u2 (u2 I 111 (tn (I 89 43)) p1) 89 43 ((I 89 43) + (1 : Int32))), J, ρ)
  obtain rfl := Option.some.inj hf
  exact AW.vret (st := []) dX12_holds_20 rfl hK
def f_X12_opensOne (N : Nat) (ρ : Rh) (I : Nat → Nat → Int32) (J : Nat → Nat → Int64) (p1 : Int32) : Option ((Nat → Nat → Int32) × Int32) := (if ((I 89 44) = (5 : Int32)) then some (I, (0 : Int32)) else (Option.bind (f_X12_holds N ρ (u2 I 89 44 ((I 89 44) + (1 : Int32))) J p1) fun v1 => some (v1, (1 : Int32))))
theorem c_X12_opensOne {G : Gd} {d N : Nat} {K : Ah → Option Value → Prop} {ρ : Rh} {I : Nat → Nat → Int32} {J : Nat → Nat → Int64} {p1 : Int32} {o : (Nat → Nat → Int32) × Int32} (hs : Sh ρ) (hf : f_X12_opensOne N ρ I J p1 = some o) (hK : K (o.1, J, ρ) (some (.int o.2))) : AM G (d + 1) 0 0 mX12_opensOne [.ref 89, .int p1] (I, J, ρ) K := by
  unfold f_X12_opensOne at hf
  refine AM.intro okX12_opensOne.2.2.2.1 (Nat.le_of_ble_eq_true rfl) [some (.ref 89), some (.int p1)] rfl ?_
  refine AW.aload_n dX12_opensOne_0 rfl ?_
  refine TW.getI (x := (I 89 44)) fX12_184_12 hs.k89 rfl dX12_opensOne_1 ?_
  refine AW.iconst (v := (5 : Int32)) dX12_opensOne_4 (by decide) ?_
  refine AW.icmp_ne (tgt := 10) dX12_opensOne_5 (by decide) (fun hc => ?_) (fun hc => ?_)
  · have hf := (if_neg hc).symm.trans hf
    refine AW.aload_n dX12_opensOne_10 rfl ?_
    refine AW.dup dX12_opensOne_11 rfl ?_
    refine TW.getI (x := (I 89 44)) fX12_184_12 hs.k89 rfl dX12_opensOne_12 ?_
    refine AW.iconst (v := (1 : Int32)) dX12_opensOne_15 (by decide) ?_
    refine AW.iadd dX12_opensOne_16 ?_
    refine TW.putI fX12_184_12 hs.k89 (Or.inl rfl) dX12_opensOne_17 ?_
    show AW G mX12_opensOne (d + 1) 0 0 K 20 [some (.ref 89), some (.int p1)] [] ((u2 I 89 44 ((I 89 44) + (1 : Int32))), J, ρ)
    refine AW.aload_n dX12_opensOne_20 rfl ?_
    refine AW.iload_n dX12_opensOne_21 rfl ?_
    obtain ⟨v1, gv1, hf⟩ := ob_split hf
    refine TW.invv (as := [.int p1]) (rest := []) viX12_191_12 hs.k89 dX12_opensOne_22 rfl rfl (Nat.le_of_ble_eq_true rfl) (c_X12_holds hs gv1 ?_)
    show AW G mX12_opensOne (d + 1) 0 0 K 25 [some (.ref 89), some (.int p1)] [] (v1, J, ρ)
    refine AW.iconst (v := (1 : Int32)) dX12_opensOne_25 (by decide) ?_
    obtain rfl := Option.some.inj hf
    exact AW.zret (st := []) dX12_opensOne_26 rfl (Or.inr rfl) hK
  · have hf := (if_pos hc).symm.trans hf
    refine AW.iconst (v := (0 : Int32)) dX12_opensOne_8 (by decide) ?_
    obtain rfl := Option.some.inj hf
    exact AW.zret (st := []) dX12_opensOne_9 rfl (Or.inl rfl) hK
def f_X12_between (N : Nat) (ρ : Rh) (I : Nat → Nat → Int32) (J : Nat → Nat → Int64) (p1 : Int32) : Option ((Nat → Nat → Int32) × Int32) := (Option.bind (f_X12_rank N ρ I J p1) fun v1 => (((if (v1 = (4 : Int32)) then some (5 : Int32) else (Option.bind (f_X12_rank N ρ I J p1) fun v2 => some v2)) : Option (Int32)).bind fun j3 => (Option.bind (f_X12_unwinds N ρ I J j3) fun v4 => (Option.bind (f_X12_rank N ρ v4 J p1) fun v5 => (if (v5 = (4 : Int32)) then (if ((v4 89 43) ≤ (0 : Int32)) then (Option.bind (f_X12_holds N ρ v4 J p1) fun v8 => some (v8, (1 : Int32))) else (if ¬ (((v4 89 43) - (1 : Int32)) < 0 ∨ 200 ≤ tn ((v4 89 43) - (1 : Int32))) then (Option.bind (f_X12_rank N ρ v4 J (v4 111 (tn ((v4 89 43) - (1 : Int32))))) fun v7 => (if (v7 = (4 : Int32)) then some (v4, (0 : Int32)) else (Option.bind (f_X12_holds N ρ v4 J p1) fun v9 => some (v9, (1 : Int32))))) else none)) else (Option.bind (f_X12_holds N ρ v4 J p1) fun v10 => some (v10, (1 : Int32))))))))
theorem c_X12_between {G : Gd} {d N : Nat} {K : Ah → Option Value → Prop} {ρ : Rh} {I : Nat → Nat → Int32} {J : Nat → Nat → Int64} {p1 : Int32} {o : (Nat → Nat → Int32) × Int32} (hs : Sh ρ) (hf : f_X12_between N ρ I J p1 = some o) (hK : K (o.1, J, ρ) (some (.int o.2))) : AM G (d + 2) 0 0 mX12_between [.ref 89, .int p1] (I, J, ρ) K := by
  unfold f_X12_between at hf
  refine AM.intro okX12_between.2.2.2.1 (Nat.le_of_ble_eq_true rfl) [some (.ref 89), some (.int p1)] rfl ?_
  refine AW.aload_n dX12_between_0 rfl ?_
  refine AW.iload_n dX12_between_1 rfl ?_
  obtain ⟨v1, gv1, hf⟩ := ob_split hf
  refine TW.invs (as := [.int p1]) (rest := [.ref 89]) stX12_181 dX12_between_2 rfl rfl (Nat.le_of_ble_eq_true rfl) (c_X12_rank hs gv1 ?_)
  show AW G mX12_between (d + 2) 0 0 K 5 [some (.ref 89), some (.int p1)] [.int v1, .ref 89] (I, J, ρ)
  refine AW.iconst (v := (4 : Int32)) dX12_between_5 (by decide) ?_
  obtain ⟨j3, gj3, hf⟩ := ob_split hf
  have Kj3 : AW G mX12_between (d + 2) 0 0 K 17 [some (.ref 89), some (.int p1)] [.int j3, .ref 89] (I, J, ρ) := by
    obtain ⟨v4, gv4, hf⟩ := ob_split hf
    refine TW.invv (as := [.int j3]) (rest := []) viX12_194_12 hs.k89 dX12_between_17 rfl rfl (Nat.le_of_ble_eq_true rfl) (c_X12_unwinds hs gv4 ?_)
    show AW G mX12_between (d + 2) 0 0 K 20 [some (.ref 89), some (.int p1)] [] (v4, J, ρ)
    refine AW.iload_n dX12_between_20 rfl ?_
    obtain ⟨v5, gv5, hf⟩ := ob_split hf
    refine TW.invs (as := [.int p1]) (rest := []) stX12_181 dX12_between_21 rfl rfl (Nat.le_of_ble_eq_true rfl) (c_X12_rank hs gv5 ?_)
    show AW G mX12_between (d + 2) 0 0 K 24 [some (.ref 89), some (.int p1)] [.int v5] (v4, J, ρ)
    refine AW.iconst (v := (4 : Int32)) dX12_between_24 (by decide) ?_
    refine AW.icmp_ne (tgt := 55) dX12_between_25 (by decide) (fun hc => ?_) (fun hc => ?_)
    · have hf := (if_neg hc).symm.trans hf
      refine AW.aload_n dX12_between_55 rfl ?_
      refine AW.iload_n dX12_between_56 rfl ?_
      obtain ⟨v10, gv10, hf⟩ := ob_split hf
      refine TW.invv (as := [.int p1]) (rest := []) viX12_191_12 hs.k89 dX12_between_57 rfl rfl (Nat.le_of_ble_eq_true rfl) (c_X12_holds hs gv10 ?_)
      show AW G mX12_between (d + 2) 0 0 K 60 [some (.ref 89), some (.int p1)] [] (v10, J, ρ)
      refine AW.iconst (v := (1 : Int32)) dX12_between_60 (by decide) ?_
      obtain rfl := Option.some.inj hf
      exact AW.zret (st := []) dX12_between_61 rfl (Or.inr rfl) hK
    · have hf := (if_pos hc).symm.trans hf
      refine AW.aload_n dX12_between_28 rfl ?_
      refine TW.getI (x := (v4 89 43)) fX12_178_12 hs.k89 rfl dX12_between_29 ?_
      refine AW.if_le (tgt := 55) dX12_between_32 (by decide) (fun hc => ?_) (fun hc => ?_)
      · have hf := (if_pos hc).symm.trans hf
        refine AW.aload_n dX12_between_55 rfl ?_
        refine AW.iload_n dX12_between_56 rfl ?_
        obtain ⟨v8, gv8, hf⟩ := ob_split hf
        refine TW.invv (as := [.int p1]) (rest := []) viX12_191_12 hs.k89 dX12_between_57 rfl rfl (Nat.le_of_ble_eq_true rfl) (c_X12_holds hs gv8 ?_)
        show AW G mX12_between (d + 2) 0 0 K 60 [some (.ref 89), some (.int p1)] [] (v8, J, ρ)
        refine AW.iconst (v := (1 : Int32)) dX12_between_60 (by decide) ?_
        obtain rfl := Option.some.inj hf
        exact AW.zret (st := []) dX12_between_61 rfl (Or.inr rfl) hK
      · have hf := (if_neg hc).symm.trans hf
        refine AW.aload_n dX12_between_35 rfl ?_
        refine TW.getR fX12_112_12 hs.k89 (rf_some hs.r89_42) dX12_between_36 ?_
        refine AW.aload_n dX12_between_39 rfl ?_
        refine TW.getI (x := (v4 89 43)) fX12_178_12 hs.k89 rfl dX12_between_40 ?_
        refine AW.iconst (v := (1 : Int32)) dX12_between_43 (by decide) ?_
        refine AW.isub dX12_between_44 ?_
        obtain ⟨h6, hf⟩ := gd_split hf
        refine TW.iald (x := (v4 111 (tn ((v4 89 43) - (1 : Int32))))) hs.k111 h6 rfl dX12_between_45 ?_
        obtain ⟨v7, gv7, hf⟩ := ob_split hf
        refine TW.invs (as := [.int (v4 111 (tn ((v4 89 43) - (1 : Int32))))]) (rest := []) stX12_181 dX12_between_46 rfl rfl (Nat.le_of_ble_eq_true rfl) (c_X12_rank hs gv7 ?_)
        show AW G mX12_between (d + 2) 0 0 K 49 [some (.ref 89), some (.int p1)] [.int v7] (v4, J, ρ)
        refine AW.iconst (v := (4 : Int32)) dX12_between_49 (by decide) ?_
        refine AW.icmp_ne (tgt := 55) dX12_between_50 (by decide) (fun hc => ?_) (fun hc => ?_)
        · have hf := (if_neg hc).symm.trans hf
          refine AW.aload_n dX12_between_55 rfl ?_
          refine AW.iload_n dX12_between_56 rfl ?_
          obtain ⟨v9, gv9, hf⟩ := ob_split hf
          refine TW.invv (as := [.int p1]) (rest := []) viX12_191_12 hs.k89 dX12_between_57 rfl rfl (Nat.le_of_ble_eq_true rfl) (c_X12_holds hs gv9 ?_)
          show AW G mX12_between (d + 2) 0 0 K 60 [some (.ref 89), some (.int p1)] [] (v9, J, ρ)
          refine AW.iconst (v := (1 : Int32)) dX12_between_60 (by decide) ?_
          obtain rfl := Option.some.inj hf
          exact AW.zret (st := []) dX12_between_61 rfl (Or.inr rfl) hK
        · have hf := (if_pos hc).symm.trans hf
          refine AW.iconst (v := (0 : Int32)) dX12_between_53 (by decide) ?_
          obtain rfl := Option.some.inj hf
          exact AW.zret (st := []) dX12_between_54 rfl (Or.inl rfl) hK
  clear hf; have hf := gj3; clear gj3
  refine AW.icmp_ne (tgt := 13) dX12_between_6 (by decide) (fun hc => ?_) (fun hc => ?_)
  · have hf := (if_neg hc).symm.trans hf
    refine AW.iload_n dX12_between_13 rfl ?_
    obtain ⟨v2, gv2, hf⟩ := ob_split hf
    refine TW.invs (as := [.int p1]) (rest := [.ref 89]) stX12_181 dX12_between_14 rfl rfl (Nat.le_of_ble_eq_true rfl) (c_X12_rank hs gv2 ?_)
    show AW G mX12_between (d + 2) 0 0 K 17 [some (.ref 89), some (.int p1)] [.int v2, .ref 89] (I, J, ρ)
    obtain rfl := Option.some.inj hf
    exact AW.weak _ (by exact (And.intro rfl (And.intro rfl trivial))) Kj3
  · have hf := (if_pos hc).symm.trans hf
    refine AW.iconst (v := (5 : Int32)) dX12_between_9 (by decide) ?_
    refine AW.goto (tgt := 17) dX12_between_10 (by decide) ?_
    obtain rfl := Option.some.inj hf
    exact AW.weak _ (by exact (And.intro rfl (And.intro rfl trivial))) Kj3
def f_X12_signOf (N : Nat) (ρ : Rh) (I : Nat → Nat → Int32) (J : Nat → Nat → Int64) : Option (Int32) := (if ((I 89 39) = (4 : Int32)) then some (11 : Int32) else (if ((I 89 39) = (5 : Int32)) then some (12 : Int32) else (if ((I 89 39) = (60 : Int32)) then some (14 : Int32) else (if ((I 89 39) = (61 : Int32)) then some (15 : Int32) else (if ((I 89 39) = (43 : Int32)) then some (16 : Int32) else (if ((I 89 39) = (45 : Int32)) then some (17 : Int32) else (if ((I 89 39) = (42 : Int32)) then some (18 : Int32) else some (-1 : Int32))))))))
theorem c_X12_signOf {G : Gd} {d N : Nat} {K : Ah → Option Value → Prop} {ρ : Rh} {I : Nat → Nat → Int32} {J : Nat → Nat → Int64} {o : Int32} (hs : Sh ρ) (hf : f_X12_signOf N ρ I J = some o) (hK : K (I, J, ρ) (some (.int o))) : AM G d 0 0 mX12_signOf [.ref 89] (I, J, ρ) K := by
  unfold f_X12_signOf at hf
  refine AM.intro okX12_signOf.2.2.2.1 (Nat.le_of_ble_eq_true rfl) [some (.ref 89)] rfl ?_
  refine AW.aload_n dX12_signOf_0 rfl ?_
  refine TW.getI (x := (I 89 39)) fX12_165_12 hs.k89 rfl dX12_signOf_1 ?_
  refine AW.iconst (v := (4 : Int32)) dX12_signOf_4 (by decide) ?_
  refine AW.icmp_ne (tgt := 13) dX12_signOf_5 (by decide) (fun hc => ?_) (fun hc => ?_)
  · have hf := (if_neg hc).symm.trans hf
    refine AW.aload_n dX12_signOf_13 rfl ?_
    refine TW.getI (x := (I 89 39)) fX12_165_12 hs.k89 rfl dX12_signOf_14 ?_
    refine AW.iconst (v := (5 : Int32)) dX12_signOf_17 (by decide) ?_
    refine AW.icmp_ne (tgt := 26) dX12_signOf_18 (by decide) (fun hc => ?_) (fun hc => ?_)
    · have hf := (if_neg hc).symm.trans hf
      refine AW.aload_n dX12_signOf_26 rfl ?_
      refine TW.getI (x := (I 89 39)) fX12_165_12 hs.k89 rfl dX12_signOf_27 ?_
      refine AW.bipush (v := (60 : Int32)) dX12_signOf_30 (by decide) ?_
      refine AW.icmp_ne (tgt := 40) dX12_signOf_32 (by decide) (fun hc => ?_) (fun hc => ?_)
      · have hf := (if_neg hc).symm.trans hf
        refine AW.aload_n dX12_signOf_40 rfl ?_
        refine TW.getI (x := (I 89 39)) fX12_165_12 hs.k89 rfl dX12_signOf_41 ?_
        refine AW.bipush (v := (61 : Int32)) dX12_signOf_44 (by decide) ?_
        refine AW.icmp_ne (tgt := 54) dX12_signOf_46 (by decide) (fun hc => ?_) (fun hc => ?_)
        · have hf := (if_neg hc).symm.trans hf
          refine AW.aload_n dX12_signOf_54 rfl ?_
          refine TW.getI (x := (I 89 39)) fX12_165_12 hs.k89 rfl dX12_signOf_55 ?_
          refine AW.bipush (v := (43 : Int32)) dX12_signOf_58 (by decide) ?_
          refine AW.icmp_ne (tgt := 68) dX12_signOf_60 (by decide) (fun hc => ?_) (fun hc => ?_)
          · have hf := (if_neg hc).symm.trans hf
            refine AW.aload_n dX12_signOf_68 rfl ?_
            refine TW.getI (x := (I 89 39)) fX12_165_12 hs.k89 rfl dX12_signOf_69 ?_
            refine AW.bipush (v := (45 : Int32)) dX12_signOf_72 (by decide) ?_
            refine AW.icmp_ne (tgt := 82) dX12_signOf_74 (by decide) (fun hc => ?_) (fun hc => ?_)
            · have hf := (if_neg hc).symm.trans hf
              refine AW.aload_n dX12_signOf_82 rfl ?_
              refine TW.getI (x := (I 89 39)) fX12_165_12 hs.k89 rfl dX12_signOf_83 ?_
              refine AW.bipush (v := (42 : Int32)) dX12_signOf_86 (by decide) ?_
              refine AW.icmp_ne (tgt := 96) dX12_signOf_88 (by decide) (fun hc => ?_) (fun hc => ?_)
              · have hf := (if_neg hc).symm.trans hf
                refine AW.iconst (v := (-1 : Int32)) dX12_signOf_96 (by decide) ?_
                obtain rfl := Option.some.inj hf
                exact AW.iret (st := []) dX12_signOf_97 rfl hK
              · have hf := (if_pos hc).symm.trans hf
                refine AW.bipush (v := (18 : Int32)) dX12_signOf_91 (by decide) ?_
                refine AW.goto (tgt := 97) dX12_signOf_93 (by decide) ?_
                obtain rfl := Option.some.inj hf
                exact AW.iret (st := []) dX12_signOf_97 rfl hK
            · have hf := (if_pos hc).symm.trans hf
              refine AW.bipush (v := (17 : Int32)) dX12_signOf_77 (by decide) ?_
              refine AW.goto (tgt := 97) dX12_signOf_79 (by decide) ?_
              obtain rfl := Option.some.inj hf
              exact AW.iret (st := []) dX12_signOf_97 rfl hK
          · have hf := (if_pos hc).symm.trans hf
            refine AW.bipush (v := (16 : Int32)) dX12_signOf_63 (by decide) ?_
            refine AW.goto (tgt := 97) dX12_signOf_65 (by decide) ?_
            obtain rfl := Option.some.inj hf
            exact AW.iret (st := []) dX12_signOf_97 rfl hK
        · have hf := (if_pos hc).symm.trans hf
          refine AW.bipush (v := (15 : Int32)) dX12_signOf_49 (by decide) ?_
          refine AW.goto (tgt := 97) dX12_signOf_51 (by decide) ?_
          obtain rfl := Option.some.inj hf
          exact AW.iret (st := []) dX12_signOf_97 rfl hK
      · have hf := (if_pos hc).symm.trans hf
        refine AW.bipush (v := (14 : Int32)) dX12_signOf_35 (by decide) ?_
        refine AW.goto (tgt := 97) dX12_signOf_37 (by decide) ?_
        obtain rfl := Option.some.inj hf
        exact AW.iret (st := []) dX12_signOf_97 rfl hK
    · have hf := (if_pos hc).symm.trans hf
      refine AW.bipush (v := (12 : Int32)) dX12_signOf_21 (by decide) ?_
      refine AW.goto (tgt := 97) dX12_signOf_23 (by decide) ?_
      obtain rfl := Option.some.inj hf
      exact AW.iret (st := []) dX12_signOf_97 rfl hK
  · have hf := (if_pos hc).symm.trans hf
    refine AW.bipush (v := (11 : Int32)) dX12_signOf_8 (by decide) ?_
    refine AW.goto (tgt := 97) dX12_signOf_10 (by decide) ?_
    obtain rfl := Option.some.inj hf
    exact AW.iret (st := []) dX12_signOf_97 rfl hK
def f_X12_eRead_14 (N : Nat) (J : Nat → Nat → Int64) (ρ : Rh) : Nat → (Nat → Nat → Int32) → Int32 → Int32 → Option ((Nat → Nat → Int32) × Int32)
  | 0, _, _, _ => none
  | n + 1, I1, i2, i3 => (Option.bind (f_X12_next N ρ I1 J) fun v4 => (if (i2 = (0 : Int32)) then (if ((v4 89 39) = (59 : Int32)) then (Option.bind (f_X12_unwinds N ρ v4 J (1 : Int32)) fun v5 => (if ((v5 89 43) = (0 : Int32)) then some (v5, (1 : Int32)) else some (v5, (0 : Int32)))) else (if ((v4 89 39) = (41 : Int32)) then (Option.bind (f_X12_unwinds N ρ v4 J (1 : Int32)) fun v9 => (if ((v9 89 43) = (0 : Int32)) then some (v9, (0 : Int32)) else (Option.bind (f_X12_unwinds N ρ (u2 (u2 v9 89 43 ((v9 89 43) - (1 : Int32))) 89 44 ((v9 89 44) - (1 : Int32))) J (7 : Int32)) fun v10 => f_X12_eRead_14 N J ρ n v10 i2 i3))) else (Option.bind (f_X12_signOf N ρ v4 J) fun v6 => (if (v6 = (-1 : Int32)) then some (v4, (0 : Int32)) else (Option.bind (f_X12_between N ρ v4 J v6) fun v7 => (if (v7.2 = (0 : Int32)) then some (v7.1, (0 : Int32)) else (((if ((12 : Int32) < v6) then some (0 : Int32) else some (1 : Int32)) : Option (Int32)).bind fun j8 => f_X12_eRead_14 N J ρ n v7.1 (1 : Int32) j8))))))) else (if ((v4 89 39) = (1 : Int32)) then (((if ((v4 89 39) = (1 : Int32)) then some ((100000 : Int32) + (v4 89 40)) else some (v4 89 40)) : Option (Int32)).bind fun j11 => (Option.bind (f_X12_puts N ρ v4 J j11) fun v12 => (Option.bind (f_X12_unwinds N ρ v12 J (7 : Int32)) fun v13 => f_X12_eRead_14 N J ρ n v13 (0 : Int32) i3))) else (if ((v4 89 39) = (2 : Int32)) then (((if ((v4 89 39) = (1 : Int32)) then some ((100000 : Int32) + (v4 89 40)) else some (v4 89 40)) : Option (Int32)).bind fun j19 => (Option.bind (f_X12_puts N ρ v4 J j19) fun v20 => (Option.bind (f_X12_unwinds N ρ v20 J (7 : Int32)) fun v21 => f_X12_eRead_14 N J ρ n v21 (0 : Int32) i3))) else (if ((v4 89 39) = (6 : Int32)) then (if (i3 = (0 : Int32)) then (if ((v4 89 39) = (45 : Int32)) then (Option.bind (f_X12_opensOne N ρ v4 J (19 : Int32)) fun v17 => (if (v17.2 = (0 : Int32)) then some (v17.1, (0 : Int32)) else f_X12_eRead_14 N J ρ n v17.1 i2 (0 : Int32))) else (if ((v4 89 39) = (40 : Int32)) then (Option.bind (f_X12_opensOne N ρ v4 J (0 : Int32)) fun v16 => (if (v16.2 = (0 : Int32)) then some (v16.1, (0 : Int32)) else f_X12_eRead_14 N J ρ n v16.1 i2 (1 : Int32))) else some (v4, (0 : Int32)))) else (Option.bind (f_X12_opensOne N ρ v4 J (13 : Int32)) fun v18 => (if (v18.2 = (0 : Int32)) then some (v18.1, (0 : Int32)) else f_X12_eRead_14 N J ρ n v18.1 i2 i3))) else (if ((v4 89 39) = (45 : Int32)) then (Option.bind (f_X12_opensOne N ρ v4 J (19 : Int32)) fun v15 => (if (v15.2 = (0 : Int32)) then some (v15.1, (0 : Int32)) else f_X12_eRead_14 N J ρ n v15.1 i2 (0 : Int32))) else (if ((v4 89 39) = (40 : Int32)) then (Option.bind (f_X12_opensOne N ρ v4 J (0 : Int32)) fun v14 => (if (v14.2 = (0 : Int32)) then some (v14.1, (0 : Int32)) else f_X12_eRead_14 N J ρ n v14.1 i2 (1 : Int32))) else some (v4, (0 : Int32)))))))))
theorem l_X12_eRead_14 {G : Gd} {d N : Nat} {K : Ah → Option Value → Prop} {J : Nat → Nat → Int64} {ρ : Rh} (hs : Sh ρ) {o : (Nat → Nat → Int32) × Int32} : ∀ (n : Nat) (I1 : Nat → Nat → Int32) (i2 : Int32) (i3 : Int32), f_X12_eRead_14 N J ρ n I1 i2 i3 = some o → K (o.1, J, ρ) (some (.int o.2)) → AW G mX12_eRead (d + 3) 0 0 K 14 [some (.ref 89), some (.int i2), some (.int i3), none] [] (I1, J, ρ) := by
  intro n
  induction n with
  | zero => intro I1 i2 i3 hf hE; rw [f_X12_eRead_14.eq_1] at hf; cases hf
  | succ n ih =>
    intro I1 i2 i3 hf hE
    rw [f_X12_eRead_14.eq_2] at hf
    refine AW.aload_n dX12_eRead_14 rfl ?_
    obtain ⟨v4, gv4, hf⟩ := ob_split hf
    refine TW.invv (as := []) (rest := []) viX12_197_12 hs.k89 dX12_eRead_15 rfl rfl (Nat.le_of_ble_eq_true rfl) (c_X12_next hs gv4 ?_)
    show AW G mX12_eRead (d + 3) 0 0 K 18 [some (.ref 89), some (.int i2), some (.int i3), none] [] (v4, J, ρ)
    refine AW.iload_n dX12_eRead_18 rfl ?_
    refine AW.if_eq (tgt := 150) dX12_eRead_19 (by decide) (fun hc => ?_) (fun hc => ?_)
    · have hf := (if_pos hc).symm.trans hf
      refine AW.aload_n dX12_eRead_150 rfl ?_
      refine TW.getI (x := (v4 89 39)) fX12_165_12 hs.k89 rfl dX12_eRead_151 ?_
      refine AW.bipush (v := (59 : Int32)) dX12_eRead_154 (by decide) ?_
      refine AW.icmp_ne (tgt := 177) dX12_eRead_156 (by decide) (fun hc => ?_) (fun hc => ?_)
      · have hf := (if_neg hc).symm.trans hf
        refine AW.aload_n dX12_eRead_177 rfl ?_
        refine TW.getI (x := (v4 89 39)) fX12_165_12 hs.k89 rfl dX12_eRead_178 ?_
        refine AW.bipush (v := (41 : Int32)) dX12_eRead_181 (by decide) ?_
        refine AW.icmp_ne (tgt := 229) dX12_eRead_183 (by decide) (fun hc => ?_) (fun hc => ?_)
        · have hf := (if_neg hc).symm.trans hf
          refine AW.aload_n dX12_eRead_229 rfl ?_
          obtain ⟨v6, gv6, hf⟩ := ob_split hf
          refine TW.invv (as := []) (rest := []) viX12_204_12 hs.k89 dX12_eRead_230 rfl rfl (Nat.le_of_ble_eq_true rfl) (c_X12_signOf hs gv6 ?_)
          show AW G mX12_eRead (d + 3) 0 0 K 233 [some (.ref 89), some (.int i2), some (.int i3), none] [.int v6] (v4, J, ρ)
          refine AW.istore_n (ls' := [some (.ref 89), some (.int i2), some (.int i3), some (.int v6)]) dX12_eRead_233 (Nat.le_of_ble_eq_true rfl) rfl ?_
          refine AW.iload_n dX12_eRead_234 rfl ?_
          refine AW.iconst (v := (-1 : Int32)) dX12_eRead_235 (by decide) ?_
          refine AW.icmp_eq (tgt := 247) dX12_eRead_236 (by decide) (fun hc => ?_) (fun hc => ?_)
          · have hf := (if_pos hc).symm.trans hf
            refine AW.iconst (v := (0 : Int32)) dX12_eRead_247 (by decide) ?_
            obtain rfl := Option.some.inj hf
            exact AW.zret (st := []) dX12_eRead_248 rfl (Or.inl rfl) hE
          · have hf := (if_neg hc).symm.trans hf
            refine AW.aload_n dX12_eRead_239 rfl ?_
            refine AW.iload_n dX12_eRead_240 rfl ?_
            obtain ⟨v7, gv7, hf⟩ := ob_split hf
            refine TW.invv (as := [.int v6]) (rest := []) viX12_208_12 hs.k89 dX12_eRead_241 rfl rfl (Nat.le_of_ble_eq_true rfl) (c_X12_between hs gv7 ?_)
            show AW G mX12_eRead (d + 3) 0 0 K 244 [some (.ref 89), some (.int i2), some (.int i3), some (.int v6)] [.int v7.2] (v7.1, J, ρ)
            refine AW.if_ne (tgt := 249) dX12_eRead_244 (by decide) (fun hc => ?_) (fun hc => ?_)
            · have hf := (if_neg hc).symm.trans hf
              refine AW.iconst (v := (1 : Int32)) dX12_eRead_249 (by decide) ?_
              refine AW.istore_n (ls' := [some (.ref 89), some (.int (1 : Int32)), some (.int i3), some (.int v6)]) dX12_eRead_250 (Nat.le_of_ble_eq_true rfl) rfl ?_
              refine AW.iload_n dX12_eRead_251 rfl ?_
              refine AW.bipush (v := (12 : Int32)) dX12_eRead_252 (by decide) ?_
              obtain ⟨j8, gj8, hf⟩ := ob_split hf
              have Kj8 : AW G mX12_eRead (d + 3) 0 0 K 262 [some (.ref 89), some (.int (1 : Int32)), none, none] [.int j8] (v7.1, J, ρ) := by
                refine AW.istore_n (ls' := [some (.ref 89), some (.int (1 : Int32)), some (.int j8), none]) dX12_eRead_262 (Nat.le_of_ble_eq_true rfl) rfl ?_
                refine AW.goto (tgt := 14) dX12_eRead_263 (by decide) ?_
                exact AW.weak _ (by exact (And.intro rfl (And.intro rfl (And.intro rfl trivial)))) (ih v7.1 (1 : Int32) j8 hf hE)
              clear hf; have hf := gj8; clear gj8
              refine AW.icmp_gt (tgt := 261) dX12_eRead_254 (by decide) (fun hc => ?_) (fun hc => ?_)
              · have hf := (if_pos hc).symm.trans hf
                refine AW.iconst (v := (0 : Int32)) dX12_eRead_261 (by decide) ?_
                obtain rfl := Option.some.inj hf
                exact AW.weak _ (by exact (And.intro rfl (And.intro rfl trivial))) Kj8
              · have hf := (if_neg hc).symm.trans hf
                refine AW.iconst (v := (1 : Int32)) dX12_eRead_257 (by decide) ?_
                refine AW.goto (tgt := 262) dX12_eRead_258 (by decide) ?_
                obtain rfl := Option.some.inj hf
                exact AW.weak _ (by exact (And.intro rfl (And.intro rfl trivial))) Kj8
            · have hf := (if_pos hc).symm.trans hf
              refine AW.iconst (v := (0 : Int32)) dX12_eRead_247 (by decide) ?_
              obtain rfl := Option.some.inj hf
              exact AW.zret (st := []) dX12_eRead_248 rfl (Or.inl rfl) hE
        · have hf := (if_pos hc).symm.trans hf
          refine AW.aload_n dX12_eRead_186 rfl ?_
          refine AW.iconst (v := (1 : Int32)) dX12_eRead_187 (by decide) ?_
          obtain ⟨v9, gv9, hf⟩ := ob_split hf
          refine TW.invv (as := [.int (1 : Int32)]) (rest := []) viX12_194_12 hs.k89 dX12_eRead_188 rfl rfl (Nat.le_of_ble_eq_true rfl) (c_X12_unwinds hs gv9 ?_)
          show AW G mX12_eRead (d + 3) 0 0 K 191 [some (.ref 89), some (.int i2), some (.int i3), none] [] (v9, J, ρ)
          refine AW.aload_n dX12_eRead_191 rfl ?_
          refine TW.getI (x := (v9 89 43)) fX12_178_12 hs.k89 rfl dX12_eRead_192 ?_
          refine AW.if_ne (tgt := 200) dX12_eRead_195 (by decide) (fun hc => ?_) (fun hc => ?_)
          · have hf := (if_neg hc).symm.trans hf
            refine AW.aload_n dX12_eRead_200 rfl ?_
            refine AW.dup dX12_eRead_201 rfl ?_
            refine TW.getI (x := (v9 89 43)) fX12_178_12 hs.k89 rfl dX12_eRead_202 ?_
            refine AW.iconst (v := (1 : Int32)) dX12_eRead_205 (by decide) ?_
            refine AW.isub dX12_eRead_206 ?_
            refine TW.putI fX12_178_12 hs.k89 (Or.inl rfl) dX12_eRead_207 ?_
            show AW G mX12_eRead (d + 3) 0 0 K 210 [some (.ref 89), some (.int i2), some (.int i3), none] [] ((u2 v9 89 43 ((v9 89 43) - (1 : Int32))), J, ρ)
            refine AW.aload_n dX12_eRead_210 rfl ?_
            refine AW.dup dX12_eRead_211 rfl ?_
            refine TW.getI (x := (v9 89 44)) fX12_184_12 hs.k89 (u2_nk (by decide)) dX12_eRead_212 ?_
            refine AW.iconst (v := (1 : Int32)) dX12_eRead_215 (by decide) ?_
            refine AW.isub dX12_eRead_216 ?_
            refine TW.putI fX12_184_12 hs.k89 (Or.inl rfl) dX12_eRead_217 ?_
            show AW G mX12_eRead (d + 3) 0 0 K 220 [some (.ref 89), some (.int i2), some (.int i3), none] [] ((u2 (u2 v9 89 43 ((v9 89 43) - (1 : Int32))) 89 44 ((v9 89 44) - (1 : Int32))), J, ρ)
            refine AW.aload_n dX12_eRead_220 rfl ?_
            refine AW.bipush (v := (7 : Int32)) dX12_eRead_221 (by decide) ?_
            obtain ⟨v10, gv10, hf⟩ := ob_split hf
            refine TW.invv (as := [.int (7 : Int32)]) (rest := []) viX12_194_12 hs.k89 dX12_eRead_223 rfl rfl (Nat.le_of_ble_eq_true rfl) (c_X12_unwinds hs gv10 ?_)
            show AW G mX12_eRead (d + 3) 0 0 K 226 [some (.ref 89), some (.int i2), some (.int i3), none] [] (v10, J, ρ)
            refine AW.goto (tgt := 14) dX12_eRead_226 (by decide) ?_
            exact AW.weak _ (by exact (And.intro rfl (And.intro rfl (And.intro rfl trivial)))) (ih v10 i2 i3 hf hE)
          · have hf := (if_pos hc).symm.trans hf
            refine AW.iconst (v := (0 : Int32)) dX12_eRead_198 (by decide) ?_
            obtain rfl := Option.some.inj hf
            exact AW.zret (st := []) dX12_eRead_199 rfl (Or.inl rfl) hE
      · have hf := (if_pos hc).symm.trans hf
        refine AW.aload_n dX12_eRead_159 rfl ?_
        refine AW.iconst (v := (1 : Int32)) dX12_eRead_160 (by decide) ?_
        obtain ⟨v5, gv5, hf⟩ := ob_split hf
        refine TW.invv (as := [.int (1 : Int32)]) (rest := []) viX12_194_12 hs.k89 dX12_eRead_161 rfl rfl (Nat.le_of_ble_eq_true rfl) (c_X12_unwinds hs gv5 ?_)
        show AW G mX12_eRead (d + 3) 0 0 K 164 [some (.ref 89), some (.int i2), some (.int i3), none] [] (v5, J, ρ)
        refine AW.aload_n dX12_eRead_164 rfl ?_
        refine TW.getI (x := (v5 89 43)) fX12_178_12 hs.k89 rfl dX12_eRead_165 ?_
        refine AW.if_ne (tgt := 175) dX12_eRead_168 (by decide) (fun hc => ?_) (fun hc => ?_)
        · have hf := (if_neg hc).symm.trans hf
          refine AW.iconst (v := (0 : Int32)) dX12_eRead_175 (by decide) ?_
          obtain rfl := Option.some.inj hf
          exact AW.zret (st := []) dX12_eRead_176 rfl (Or.inl rfl) hE
        · have hf := (if_pos hc).symm.trans hf
          refine AW.iconst (v := (1 : Int32)) dX12_eRead_171 (by decide) ?_
          refine AW.goto (tgt := 176) dX12_eRead_172 (by decide) ?_
          obtain rfl := Option.some.inj hf
          exact AW.zret (st := []) dX12_eRead_176 rfl (Or.inr rfl) hE
    · have hf := (if_neg hc).symm.trans hf
      refine AW.aload_n dX12_eRead_22 rfl ?_
      refine TW.getI (x := (v4 89 39)) fX12_165_12 hs.k89 rfl dX12_eRead_23 ?_
      refine AW.iconst (v := (1 : Int32)) dX12_eRead_26 (by decide) ?_
      refine AW.icmp_eq (tgt := 38) dX12_eRead_27 (by decide) (fun hc => ?_) (fun hc => ?_)
      · have hf := (if_pos hc).symm.trans hf
        refine AW.aload_n dX12_eRead_38 rfl ?_
        refine AW.aload_n dX12_eRead_39 rfl ?_
        refine TW.getI (x := (v4 89 39)) fX12_165_12 hs.k89 rfl dX12_eRead_40 ?_
        refine AW.iconst (v := (1 : Int32)) dX12_eRead_43 (by decide) ?_
        obtain ⟨j11, gj11, hf⟩ := ob_split hf
        have Kj11 : AW G mX12_eRead (d + 3) 0 0 K 61 [some (.ref 89), none, some (.int i3), none] [.int j11, .ref 89] (v4, J, ρ) := by
          obtain ⟨v12, gv12, hf⟩ := ob_split hf
          refine TW.invv (as := [.int j11]) (rest := []) viX12_187_12 hs.k89 dX12_eRead_61 rfl rfl (Nat.le_of_ble_eq_true rfl) (c_X12_puts hs gv12 ?_)
          show AW G mX12_eRead (d + 3) 0 0 K 64 [some (.ref 89), none, some (.int i3), none] [] (v12, J, ρ)
          refine AW.aload_n dX12_eRead_64 rfl ?_
          refine AW.bipush (v := (7 : Int32)) dX12_eRead_65 (by decide) ?_
          obtain ⟨v13, gv13, hf⟩ := ob_split hf
          refine TW.invv (as := [.int (7 : Int32)]) (rest := []) viX12_194_12 hs.k89 dX12_eRead_67 rfl rfl (Nat.le_of_ble_eq_true rfl) (c_X12_unwinds hs gv13 ?_)
          show AW G mX12_eRead (d + 3) 0 0 K 70 [some (.ref 89), none, some (.int i3), none] [] (v13, J, ρ)
          refine AW.iconst (v := (0 : Int32)) dX12_eRead_70 (by decide) ?_
          refine AW.istore_n (ls' := [some (.ref 89), some (.int (0 : Int32)), some (.int i3), none]) dX12_eRead_71 (Nat.le_of_ble_eq_true rfl) rfl ?_
          refine AW.goto (tgt := 14) dX12_eRead_72 (by decide) ?_
          exact AW.weak _ (by exact (And.intro rfl (And.intro rfl (And.intro rfl trivial)))) (ih v13 (0 : Int32) i3 hf hE)
        clear hf; have hf := gj11; clear gj11
        refine AW.icmp_ne (tgt := 57) dX12_eRead_44 (by decide) (fun hc => ?_) (fun hc => ?_)
        · have hf := (if_neg hc).symm.trans hf
          refine AW.aload_n dX12_eRead_57 rfl ?_
          refine TW.getI (x := (v4 89 40)) fX12_168_12 hs.k89 rfl dX12_eRead_58 ?_
          obtain rfl := Option.some.inj hf
          exact AW.weak _ (by exact (And.intro rfl (And.intro rfl trivial))) Kj11
        · have hf := (if_pos hc).symm.trans hf
          refine AW.ldc dX12_eRead_47 kcX12_200 ?_
          refine AW.aload_n dX12_eRead_49 rfl ?_
          refine TW.getI (x := (v4 89 40)) fX12_168_12 hs.k89 rfl dX12_eRead_50 ?_
          refine AW.iadd dX12_eRead_53 ?_
          refine AW.goto (tgt := 61) dX12_eRead_54 (by decide) ?_
          obtain rfl := Option.some.inj hf
          exact AW.weak _ (by exact (And.intro rfl (And.intro rfl trivial))) Kj11
      · have hf := (if_neg hc).symm.trans hf
        refine AW.aload_n dX12_eRead_30 rfl ?_
        refine TW.getI (x := (v4 89 39)) fX12_165_12 hs.k89 rfl dX12_eRead_31 ?_
        refine AW.iconst (v := (2 : Int32)) dX12_eRead_34 (by decide) ?_
        refine AW.icmp_ne (tgt := 75) dX12_eRead_35 (by decide) (fun hc => ?_) (fun hc => ?_)
        · have hf := (if_neg hc).symm.trans hf
          refine AW.aload_n dX12_eRead_75 rfl ?_
          refine TW.getI (x := (v4 89 39)) fX12_165_12 hs.k89 rfl dX12_eRead_76 ?_
          refine AW.bipush (v := (6 : Int32)) dX12_eRead_79 (by decide) ?_
          refine AW.icmp_ne (tgt := 99) dX12_eRead_81 (by decide) (fun hc => ?_) (fun hc => ?_)
          · have hf := (if_neg hc).symm.trans hf
            refine AW.aload_n dX12_eRead_99 rfl ?_
            refine TW.getI (x := (v4 89 39)) fX12_165_12 hs.k89 rfl dX12_eRead_100 ?_
            refine AW.bipush (v := (45 : Int32)) dX12_eRead_103 (by decide) ?_
            refine AW.icmp_ne (tgt := 124) dX12_eRead_105 (by decide) (fun hc => ?_) (fun hc => ?_)
            · have hf := (if_neg hc).symm.trans hf
              refine AW.aload_n dX12_eRead_124 rfl ?_
              refine TW.getI (x := (v4 89 39)) fX12_165_12 hs.k89 rfl dX12_eRead_125 ?_
              refine AW.bipush (v := (40 : Int32)) dX12_eRead_128 (by decide) ?_
              refine AW.icmp_ne (tgt := 148) dX12_eRead_130 (by decide) (fun hc => ?_) (fun hc => ?_)
              · have hf := (if_neg hc).symm.trans hf
                refine AW.iconst (v := (0 : Int32)) dX12_eRead_148 (by decide) ?_
                obtain rfl := Option.some.inj hf
                exact AW.zret (st := []) dX12_eRead_149 rfl (Or.inl rfl) hE
              · have hf := (if_pos hc).symm.trans hf
                refine AW.aload_n dX12_eRead_133 rfl ?_
                refine AW.iconst (v := (0 : Int32)) dX12_eRead_134 (by decide) ?_
                obtain ⟨v14, gv14, hf⟩ := ob_split hf
                refine TW.invv (as := [.int (0 : Int32)]) (rest := []) viX12_201_12 hs.k89 dX12_eRead_135 rfl rfl (Nat.le_of_ble_eq_true rfl) (c_X12_opensOne hs gv14 ?_)
                show AW G mX12_eRead (d + 3) 0 0 K 138 [some (.ref 89), some (.int i2), some (.int i3), none] [.int v14.2] (v14.1, J, ρ)
                refine AW.if_ne (tgt := 143) dX12_eRead_138 (by decide) (fun hc => ?_) (fun hc => ?_)
                · have hf := (if_neg hc).symm.trans hf
                  refine AW.iconst (v := (1 : Int32)) dX12_eRead_143 (by decide) ?_
                  refine AW.istore_n (ls' := [some (.ref 89), some (.int i2), some (.int (1 : Int32)), none]) dX12_eRead_144 (Nat.le_of_ble_eq_true rfl) rfl ?_
                  refine AW.goto (tgt := 14) dX12_eRead_145 (by decide) ?_
                  exact AW.weak _ (by exact (And.intro rfl (And.intro rfl (And.intro rfl trivial)))) (ih v14.1 i2 (1 : Int32) hf hE)
                · have hf := (if_pos hc).symm.trans hf
                  refine AW.iconst (v := (0 : Int32)) dX12_eRead_141 (by decide) ?_
                  obtain rfl := Option.some.inj hf
                  exact AW.zret (st := []) dX12_eRead_142 rfl (Or.inl rfl) hE
            · have hf := (if_pos hc).symm.trans hf
              refine AW.aload_n dX12_eRead_108 rfl ?_
              refine AW.bipush (v := (19 : Int32)) dX12_eRead_109 (by decide) ?_
              obtain ⟨v15, gv15, hf⟩ := ob_split hf
              refine TW.invv (as := [.int (19 : Int32)]) (rest := []) viX12_201_12 hs.k89 dX12_eRead_111 rfl rfl (Nat.le_of_ble_eq_true rfl) (c_X12_opensOne hs gv15 ?_)
              show AW G mX12_eRead (d + 3) 0 0 K 114 [some (.ref 89), some (.int i2), some (.int i3), none] [.int v15.2] (v15.1, J, ρ)
              refine AW.if_ne (tgt := 119) dX12_eRead_114 (by decide) (fun hc => ?_) (fun hc => ?_)
              · have hf := (if_neg hc).symm.trans hf
                refine AW.iconst (v := (0 : Int32)) dX12_eRead_119 (by decide) ?_
                refine AW.istore_n (ls' := [some (.ref 89), some (.int i2), some (.int (0 : Int32)), none]) dX12_eRead_120 (Nat.le_of_ble_eq_true rfl) rfl ?_
                refine AW.goto (tgt := 14) dX12_eRead_121 (by decide) ?_
                exact AW.weak _ (by exact (And.intro rfl (And.intro rfl (And.intro rfl trivial)))) (ih v15.1 i2 (0 : Int32) hf hE)
              · have hf := (if_pos hc).symm.trans hf
                refine AW.iconst (v := (0 : Int32)) dX12_eRead_117 (by decide) ?_
                obtain rfl := Option.some.inj hf
                exact AW.zret (st := []) dX12_eRead_118 rfl (Or.inl rfl) hE
          · have hf := (if_pos hc).symm.trans hf
            refine AW.iload_n dX12_eRead_84 rfl ?_
            refine AW.if_eq (tgt := 99) dX12_eRead_85 (by decide) (fun hc => ?_) (fun hc => ?_)
            · have hf := (if_pos hc).symm.trans hf
              refine AW.aload_n dX12_eRead_99 rfl ?_
              refine TW.getI (x := (v4 89 39)) fX12_165_12 hs.k89 rfl dX12_eRead_100 ?_
              refine AW.bipush (v := (45 : Int32)) dX12_eRead_103 (by decide) ?_
              refine AW.icmp_ne (tgt := 124) dX12_eRead_105 (by decide) (fun hc => ?_) (fun hc => ?_)
              · have hf := (if_neg hc).symm.trans hf
                refine AW.aload_n dX12_eRead_124 rfl ?_
                refine TW.getI (x := (v4 89 39)) fX12_165_12 hs.k89 rfl dX12_eRead_125 ?_
                refine AW.bipush (v := (40 : Int32)) dX12_eRead_128 (by decide) ?_
                refine AW.icmp_ne (tgt := 148) dX12_eRead_130 (by decide) (fun hc => ?_) (fun hc => ?_)
                · have hf := (if_neg hc).symm.trans hf
                  refine AW.iconst (v := (0 : Int32)) dX12_eRead_148 (by decide) ?_
                  obtain rfl := Option.some.inj hf
                  exact AW.zret (st := []) dX12_eRead_149 rfl (Or.inl rfl) hE
                · have hf := (if_pos hc).symm.trans hf
                  refine AW.aload_n dX12_eRead_133 rfl ?_
                  refine AW.iconst (v := (0 : Int32)) dX12_eRead_134 (by decide) ?_
                  obtain ⟨v16, gv16, hf⟩ := ob_split hf
                  refine TW.invv (as := [.int (0 : Int32)]) (rest := []) viX12_201_12 hs.k89 dX12_eRead_135 rfl rfl (Nat.le_of_ble_eq_true rfl) (c_X12_opensOne hs gv16 ?_)
                  show AW G mX12_eRead (d + 3) 0 0 K 138 [some (.ref 89), some (.int i2), some (.int i3), none] [.int v16.2] (v16.1, J, ρ)
                  refine AW.if_ne (tgt := 143) dX12_eRead_138 (by decide) (fun hc => ?_) (fun hc => ?_)
                  · have hf := (if_neg hc).symm.trans hf
                    refine AW.iconst (v := (1 : Int32)) dX12_eRead_143 (by decide) ?_
                    refine AW.istore_n (ls' := [some (.ref 89), some (.int i2), some (.int (1 : Int32)), none]) dX12_eRead_144 (Nat.le_of_ble_eq_true rfl) rfl ?_
                    refine AW.goto (tgt := 14) dX12_eRead_145 (by decide) ?_
                    exact AW.weak _ (by exact (And.intro rfl (And.intro rfl (And.intro rfl trivial)))) (ih v16.1 i2 (1 : Int32) hf hE)
                  · have hf := (if_pos hc).symm.trans hf
                    refine AW.iconst (v := (0 : Int32)) dX12_eRead_141 (by decide) ?_
                    obtain rfl := Option.some.inj hf
                    exact AW.zret (st := []) dX12_eRead_142 rfl (Or.inl rfl) hE
              · have hf := (if_pos hc).symm.trans hf
                refine AW.aload_n dX12_eRead_108 rfl ?_
                refine AW.bipush (v := (19 : Int32)) dX12_eRead_109 (by decide) ?_
                obtain ⟨v17, gv17, hf⟩ := ob_split hf
                refine TW.invv (as := [.int (19 : Int32)]) (rest := []) viX12_201_12 hs.k89 dX12_eRead_111 rfl rfl (Nat.le_of_ble_eq_true rfl) (c_X12_opensOne hs gv17 ?_)
                show AW G mX12_eRead (d + 3) 0 0 K 114 [some (.ref 89), some (.int i2), some (.int i3), none] [.int v17.2] (v17.1, J, ρ)
                refine AW.if_ne (tgt := 119) dX12_eRead_114 (by decide) (fun hc => ?_) (fun hc => ?_)
                · have hf := (if_neg hc).symm.trans hf
                  refine AW.iconst (v := (0 : Int32)) dX12_eRead_119 (by decide) ?_
                  refine AW.istore_n (ls' := [some (.ref 89), some (.int i2), some (.int (0 : Int32)), none]) dX12_eRead_120 (Nat.le_of_ble_eq_true rfl) rfl ?_
                  refine AW.goto (tgt := 14) dX12_eRead_121 (by decide) ?_
                  exact AW.weak _ (by exact (And.intro rfl (And.intro rfl (And.intro rfl trivial)))) (ih v17.1 i2 (0 : Int32) hf hE)
                · have hf := (if_pos hc).symm.trans hf
                  refine AW.iconst (v := (0 : Int32)) dX12_eRead_117 (by decide) ?_
                  obtain rfl := Option.some.inj hf
                  exact AW.zret (st := []) dX12_eRead_118 rfl (Or.inl rfl) hE
            · have hf := (if_neg hc).symm.trans hf
              refine AW.aload_n dX12_eRead_88 rfl ?_
              refine AW.bipush (v := (13 : Int32)) dX12_eRead_89 (by decide) ?_
              obtain ⟨v18, gv18, hf⟩ := ob_split hf
              refine TW.invv (as := [.int (13 : Int32)]) (rest := []) viX12_201_12 hs.k89 dX12_eRead_91 rfl rfl (Nat.le_of_ble_eq_true rfl) (c_X12_opensOne hs gv18 ?_)
              show AW G mX12_eRead (d + 3) 0 0 K 94 [some (.ref 89), some (.int i2), some (.int i3), none] [.int v18.2] (v18.1, J, ρ)
              refine AW.if_ne (tgt := 14) dX12_eRead_94 (by decide) (fun hc => ?_) (fun hc => ?_)
              · have hf := (if_neg hc).symm.trans hf
                exact AW.weak _ (by exact (And.intro rfl (And.intro rfl (And.intro rfl trivial)))) (ih v18.1 i2 i3 hf hE)
              · have hf := (if_pos hc).symm.trans hf
                refine AW.iconst (v := (0 : Int32)) dX12_eRead_97 (by decide) ?_
                obtain rfl := Option.some.inj hf
                exact AW.zret (st := []) dX12_eRead_98 rfl (Or.inl rfl) hE
        · have hf := (if_pos hc).symm.trans hf
          refine AW.aload_n dX12_eRead_38 rfl ?_
          refine AW.aload_n dX12_eRead_39 rfl ?_
          refine TW.getI (x := (v4 89 39)) fX12_165_12 hs.k89 rfl dX12_eRead_40 ?_
          refine AW.iconst (v := (1 : Int32)) dX12_eRead_43 (by decide) ?_
          obtain ⟨j19, gj19, hf⟩ := ob_split hf
          have Kj19 : AW G mX12_eRead (d + 3) 0 0 K 61 [some (.ref 89), none, some (.int i3), none] [.int j19, .ref 89] (v4, J, ρ) := by
            obtain ⟨v20, gv20, hf⟩ := ob_split hf
            refine TW.invv (as := [.int j19]) (rest := []) viX12_187_12 hs.k89 dX12_eRead_61 rfl rfl (Nat.le_of_ble_eq_true rfl) (c_X12_puts hs gv20 ?_)
            show AW G mX12_eRead (d + 3) 0 0 K 64 [some (.ref 89), none, some (.int i3), none] [] (v20, J, ρ)
            refine AW.aload_n dX12_eRead_64 rfl ?_
            refine AW.bipush (v := (7 : Int32)) dX12_eRead_65 (by decide) ?_
            obtain ⟨v21, gv21, hf⟩ := ob_split hf
            refine TW.invv (as := [.int (7 : Int32)]) (rest := []) viX12_194_12 hs.k89 dX12_eRead_67 rfl rfl (Nat.le_of_ble_eq_true rfl) (c_X12_unwinds hs gv21 ?_)
            show AW G mX12_eRead (d + 3) 0 0 K 70 [some (.ref 89), none, some (.int i3), none] [] (v21, J, ρ)
            refine AW.iconst (v := (0 : Int32)) dX12_eRead_70 (by decide) ?_
            refine AW.istore_n (ls' := [some (.ref 89), some (.int (0 : Int32)), some (.int i3), none]) dX12_eRead_71 (Nat.le_of_ble_eq_true rfl) rfl ?_
            refine AW.goto (tgt := 14) dX12_eRead_72 (by decide) ?_
            exact AW.weak _ (by exact (And.intro rfl (And.intro rfl (And.intro rfl trivial)))) (ih v21 (0 : Int32) i3 hf hE)
          clear hf; have hf := gj19; clear gj19
          refine AW.icmp_ne (tgt := 57) dX12_eRead_44 (by decide) (fun hc => ?_) (fun hc => ?_)
          · have hf := (if_neg hc).symm.trans hf
            refine AW.aload_n dX12_eRead_57 rfl ?_
            refine TW.getI (x := (v4 89 40)) fX12_168_12 hs.k89 rfl dX12_eRead_58 ?_
            obtain rfl := Option.some.inj hf
            exact AW.weak _ (by exact (And.intro rfl (And.intro rfl trivial))) Kj19
          · have hf := (if_pos hc).symm.trans hf
            refine AW.ldc dX12_eRead_47 kcX12_200 ?_
            refine AW.aload_n dX12_eRead_49 rfl ?_
            refine TW.getI (x := (v4 89 40)) fX12_168_12 hs.k89 rfl dX12_eRead_50 ?_
            refine AW.iadd dX12_eRead_53 ?_
            refine AW.goto (tgt := 61) dX12_eRead_54 (by decide) ?_
            obtain rfl := Option.some.inj hf
            exact AW.weak _ (by exact (And.intro rfl (And.intro rfl trivial))) Kj19
def f_X12_eRead (N : Nat) (ρ : Rh) (I : Nat → Nat → Int32) (J : Nat → Nat → Int64) : Option ((Nat → Nat → Int32) × Int32) := ((f_X12_eRead_14 N J ρ N (u2 (u2 I 89 43 (0 : Int32)) 89 44 (0 : Int32)) (1 : Int32) (1 : Int32)).bind fun r => some r)
theorem c_X12_eRead {G : Gd} {d N : Nat} {K : Ah → Option Value → Prop} {ρ : Rh} {I : Nat → Nat → Int32} {J : Nat → Nat → Int64} {o : (Nat → Nat → Int32) × Int32} (hs : Sh ρ) (hf : f_X12_eRead N ρ I J = some o) (hK : K (o.1, J, ρ) (some (.int o.2))) : AM G (d + 3) 0 0 mX12_eRead [.ref 89] (I, J, ρ) K := by
  unfold f_X12_eRead at hf
  refine AM.intro okX12_eRead.2.2.2.1 (Nat.le_of_ble_eq_true rfl) [some (.ref 89), none, none, none] rfl ?_
  refine AW.aload_n dX12_eRead_0 rfl ?_
  refine AW.iconst (v := (0 : Int32)) dX12_eRead_1 (by decide) ?_
  refine TW.putI fX12_178_12 hs.k89 (Or.inl rfl) dX12_eRead_2 ?_
  show AW G mX12_eRead (d + 3) 0 0 K 5 [some (.ref 89), none, none, none] [] ((u2 I 89 43 (0 : Int32)), J, ρ)
  refine AW.aload_n dX12_eRead_5 rfl ?_
  refine AW.iconst (v := (0 : Int32)) dX12_eRead_6 (by decide) ?_
  refine TW.putI fX12_184_12 hs.k89 (Or.inl rfl) dX12_eRead_7 ?_
  show AW G mX12_eRead (d + 3) 0 0 K 10 [some (.ref 89), none, none, none] [] ((u2 (u2 I 89 43 (0 : Int32)) 89 44 (0 : Int32)), J, ρ)
  refine AW.iconst (v := (1 : Int32)) dX12_eRead_10 (by decide) ?_
  refine AW.istore_n (ls' := [some (.ref 89), some (.int (1 : Int32)), none, none]) dX12_eRead_11 (Nat.le_of_ble_eq_true rfl) rfl ?_
  refine AW.iconst (v := (1 : Int32)) dX12_eRead_12 (by decide) ?_
  refine AW.istore_n (ls' := [some (.ref 89), some (.int (1 : Int32)), some (.int (1 : Int32)), none]) dX12_eRead_13 (Nat.le_of_ble_eq_true rfl) rfl ?_
  obtain ⟨j22, gj22, hf⟩ := ob_split hf
  refine AW.weak _ (by exact (And.intro rfl (And.intro rfl (And.intro rfl trivial)))) (l_X12_eRead_14 hs N (u2 (u2 I 89 43 (0 : Int32)) 89 44 (0 : Int32)) (1 : Int32) (1 : Int32) gj22 ?_)
  obtain rfl := Option.some.inj hf; exact hK
