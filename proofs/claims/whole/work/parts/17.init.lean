/-! ===== the constructors, at their fixed places ===== -/
def tblL : List (Nat × Nat) := [(0, 11), (4, 8), (5, 6), (0, 8), (3, 160), (1, 160), (6, 4), (2, 8), (1, 6), (0, 2), (0, 0), (1, 8), (1, 8), (1, 4), (1, 12), (1, 12), (0, 10), (7, 13), (1, 8), (1, 8), (1, 8), (1, 8), (1, 8), (1, 8), (1, 8), (1, 8), (1, 8), (1, 8), (1, 8), (1, 8), (1, 8), (7, 12), (1, 8), (1, 8), (1, 8), (1, 8), (1, 8), (1, 8), (1, 8), (1, 8), (1, 8), (1, 8), (1, 8), (1, 8), (1, 13), (1, 13), (2, 8), (1, 6), (1, 160), (0, 7), (1, 40), (0, 7), (1, 40), (0, 7), (1, 40), (0, 7), (1, 40), (0, 12), (1, 8), (1, 8), (1, 12), (1, 12), (1, 8), (1, 8), (1, 64), (1, 160), (1, 1200), (1, 24), (1, 104), (1, 96), (1, 13), (1, 13), (1, 8), (1, 12), (1, 12), (1, 4), (1, 4), (1, 160), (2, 11), (1, 200), (1, 200), (1, 6), (2, 8)]
def tbl (a : Nat) : Nat × Nat := tblL.getD (a - 32) (9, 0)
def kdn (n : Nat) (a : Nat) : Nat × Nat := if 32 ≤ a ∧ a < 32 + n then tbl a else (9, 0)
theorem kdn_at {n a : Nat} {k : Nat × Nat} (h : 32 ≤ a ∧ a < 32 + n) (ht : tbl a = k) : kdn n a = k := by rw [kdn, if_pos h, ht]
theorem kdn_up {n : Nat} {k : Nat × Nat} (ht : tbl (32 + n) = k) : up (kdn n) (32 + n) k = kdn (n + 1) := by
  funext a
  rw [up_ap, kdn, kdn]
  by_cases h : a = 32 + n
  · subst h; rw [if_pos rfl, if_pos (by omega), ht]
  · rw [if_neg h]
    by_cases h2 : 32 ≤ a ∧ a < 32 + n
    · rw [if_pos h2, if_pos (by omega)]
    · rw [if_neg h2, if_neg (by omega)]
def zrs {α : Type} (z : α) (f : Nat → Nat → α) (a : Nat) : Nat → Nat → Nat → α
  | 0 => f
  | i + 1 => up (zrs z f a i) (a + i) (fun _ => z)
section CONC
variable {G : Gd} {M : Mi} {d c n : Nat} {K : Ah → Option Value → Prop} {pc : Nat} {ls : List (Option Value)} {st : List Value} {I : Nat → Nat → Int32} {J : Nat → Nat → Int64} {r : Nat → Nat → Option Nat} {k : Nat}
theorem al_kdn {q : Nat} {y : Nat × Nat} (hq : 32 + k = q) (ht : tbl q = y) : al (I, J, (r, kdn k, k)) y = (up I q (fun _ => 0), up J q (fun _ => 0), (up r q (fun _ => none), kdn (k + 1), k + 1)) := by
  subst hq
  show (up I (32 + k) (fun _ => 0), up J (32 + k) (fun _ => 0), up r (32 + k) (fun _ => none), up (kdn k) (32 + k) y, k + 1) = _
  rw [kdn_up ht]
theorem CW.new {ix ci N q : Nat} (hN : NRef M.1.cls ix ci N) (ht : tbl q = (0, ci)) (hq : 32 + k = q) (hd : decode M.2.1 pc = .ok (.new ix, 3)) (kk : AW G M d c n K (pc + 3) ls (.ref q :: st) (up I q (fun _ => 0), up J q (fun _ => 0), (up r q (fun _ => none), kdn (k + 1), k + 1))) : AW G M d (1 + c) (N + n) K pc ls st (I, J, (r, kdn k, k)) :=
  AW.new hN hq hd (by rw [al_kdn hq ht]; exact kk)
theorem CW.newPrim {t N q : Nat} {at_ : ArrayType} {z : Int32} (hat : newarray.typeOf at_ = aty t) (ht1 : 1 ≤ t) (ht3 : t ≤ 3) (hw : Cond.arrayClass (aty t) ∈ WS) (hz : ¬ z < 0) (hN : z.toNatClampNeg = N) (hb : N ≤ 1000000) (ht : tbl q = (t, N)) (hq : 32 + k = q) (hd : decode M.2.1 pc = .ok (.newarray at_, 2)) (kk : AW G M d c n K (pc + 2) ls (.ref q :: st) (up I q (fun _ => 0), up J q (fun _ => 0), (up r q (fun _ => none), kdn (k + 1), k + 1))) : AW G M d (1 + c) (N + n) K pc ls (.int z :: st) (I, J, (r, kdn k, k)) :=
  AW.newPrim hat ht1 ht3 hw hz hN hb hq hd (by rw [al_kdn hq ht]; exact kk)
theorem CW.newArr {t N q ix : Nat} {C : String} {z : Int32} (hC : aty (t + 4) = .object C) (ht2 : t ≤ 2) (hw : Cond.classLink M.1.cls ix C ∈ WS) (hz : ¬ z < 0) (hN : z.toNatClampNeg = N) (hb : N ≤ 1000000) (ht : tbl q = (t + 4, N)) (hq : 32 + k = q) (hd : decode M.2.1 pc = .ok (.anewarray ix, 3)) (kk : AW G M d c n K (pc + 3) ls (.ref q :: st) (up I q (fun _ => 0), up J q (fun _ => 0), (up r q (fun _ => none), kdn (k + 1), k + 1))) : AW G M d (1 + c) (N + n) K pc ls (.int z :: st) (I, J, (r, kdn k, k)) :=
  AW.newArr hC ht2 hw hz hN hb hq hd (by rw [al_kdn hq ht]; exact kk)
theorem alr_kdn {y : Nat × Nat} : ∀ N : Nat, (∀ i, i < N → tbl (32 + k + i) = y) → alr (I, J, (r, kdn k, k)) y N = (zrs 0 I (32 + k) N, zrs 0 J (32 + k) N, (zrs none r (32 + k) N, kdn (k + N), k + N))
  | 0, _ => rfl
  | N + 1, h => by
    show al (alr (I, J, (r, kdn k, k)) y N) y = _
    rw [alr_kdn N fun i hi => h i (by omega), al_kdn (q := 32 + k + N) (by omega) (h N (by omega))]
    rfl
theorem CW.newMulti {N Z q ix : Nat} {z w : Int32} (hw : Cond.classLink M.1.cls ix "[[I" ∈ WS) (hi : Cond.arrayClass .int ∈ WS) (hz : ¬ z < 0) (hw0 : ¬ w < 0) (hN : z.toNatClampNeg = N) (hZ : w.toNatClampNeg = Z) (hb : N ≤ 1000) (hb2 : Z ≤ 1000) (ht : tbl q = (7, N)) (ht2 : ∀ i, i < N → tbl (q + 1 + i) = (1, Z)) (hq : 32 + k = q) (hd : decode M.2.1 pc = .ok (.multianewarray ix 2, 4))
    (kk : AW G M d c n K (pc + 4) ls (.ref q :: st) (zrs 0 (up I q (fun _ => 0)) (q + 1) N, zrs 0 (up J q (fun _ => 0)) (q + 1) N, (up (zrs none (up r q (fun _ => none)) (q + 1) N) q (fun i => if i < N then some (q + 1 + i) else none), kdn (k + 1 + N), k + 1 + N))) : AW G M d (1 + N + c) (N + N * Z + n) K pc ls (.int w :: .int z :: st) (I, J, (r, kdn k, k)) := by
  refine AW.newMulti hw hi hz hw0 hN hZ hb hb2 hq hd ?_
  have e : alm (I, J, (r, kdn k, k)) N Z = (zrs 0 (up I q (fun _ => 0)) (q + 1) N, zrs 0 (up J q (fun _ => 0)) (q + 1) N, (up (zrs none (up r q (fun _ => none)) (q + 1) N) q (fun i => if i < N then some (q + 1 + i) else none), kdn (k + 1 + N), k + 1 + N)) := by
    unfold alm
    rw [al_kdn hq ht]
    have e2 := alr_kdn (I := up I q (fun _ => 0)) (J := up J q (fun _ => 0)) (r := up r q (fun _ => none)) (k := k + 1) (y := (1, Z)) N (fun i hi => by have := ht2 i hi; rw [← this]; congr 1; omega)
    rw [e2]
    have e3 : 32 + (k + 1) = q + 1 := by omega
    rw [e3]
    show (_, _, up _ (32 + k) (fun i => if i < N then some (32 + k + 1 + i) else none), _, _) = _
    rw [hq]
  rw [e]; exact kk
end CONC
def zI_X8_init_35_1 (I : Nat → Nat → Int32) : Nat → Nat → Int32 := up I 36 (fun _ => 0)
def zJ_X8_init_35_1 (J : Nat → Nat → Int64) : Nat → Nat → Int64 := up J 36 (fun _ => 0)
def zR_X8_init_35_1 (r : Nat → Nat → Option Nat) : Nat → Nat → Option Nat := up r 36 (fun _ => none)
def zR_X8_init_35_2 (r : Nat → Nat → Option Nat) : Nat → Nat → Option Nat := u2 (zR_X8_init_35_1 r) 35 0 (some 36)
def zI_X8_init_35_2 (I : Nat → Nat → Int32) : Nat → Nat → Int32 := up (zI_X8_init_35_1 I) 37 (fun _ => 0)
def zJ_X8_init_35_2 (J : Nat → Nat → Int64) : Nat → Nat → Int64 := up (zJ_X8_init_35_1 J) 37 (fun _ => 0)
def zR_X8_init_35_3 (r : Nat → Nat → Option Nat) : Nat → Nat → Option Nat := up (zR_X8_init_35_2 r) 37 (fun _ => none)
def zR_X8_init_35_4 (r : Nat → Nat → Option Nat) : Nat → Nat → Option Nat := u2 (zR_X8_init_35_3 r) 35 2 (some 37)
theorem k_X8_init_35 {G : Gd} {d : Nat} {K : Ah → Option Value → Prop} {I : Nat → Nat → Int32} {J : Nat → Nat → Int64} {r : Nat → Nat → Option Nat}  (hK : K ((zI_X8_init_35_2 I), (zJ_X8_init_35_2 J), ((zR_X8_init_35_4 r), kdn 6, 6)) none) : AM G (d + 1) 2 320 mX8_init [.ref 35] (I, J, (r, kdn 4, 4)) K := by
  refine AM.intro okX8_init.2.2.2.1 (Nat.le_of_ble_eq_true rfl) [some (.ref 35)] rfl ?_
  refine AW.aload_n dX8_init_0 rfl ?_
  refine AW.obj obX8_3 ob_i ob_c dX8_init_1 (Nat.le_of_ble_eq_true rfl) ?_
  refine AW.aload_n dX8_init_4 rfl ?_
  refine AW.sipush (v := (160 : Int32)) dX8_init_5 (by decide) ?_
  refine CW.newPrim (c := 1) (n := 160) (t := 3) (N := 160) rfl (by decide) (by decide) ac_byte (by decide) (by decide) (by decide) rfl rfl dX8_init_8 ?_
  show AW G mX8_init (d + 1) 1 160 K 10 [some (.ref 35)] [.ref 36, .ref 35] ((zI_X8_init_35_1 I), (zJ_X8_init_35_1 J), ((zR_X8_init_35_1 r), kdn 5, 5))
  refine TW.putR (o := some 36) fX8_9_8 (kdn_at (n := 5) (a := 35) (k := (0, 8)) (by decide) rfl) rfl (Or.inr ⟨rfl, fX8_9_8o⟩) dX8_init_10 ?_
  show AW G mX8_init (d + 1) 1 160 K 13 [some (.ref 35)] [] ((zI_X8_init_35_1 I), (zJ_X8_init_35_1 J), ((zR_X8_init_35_2 r), kdn 5, 5))
  refine AW.aload_n dX8_init_13 rfl ?_
  refine AW.sipush (v := (160 : Int32)) dX8_init_14 (by decide) ?_
  refine CW.newPrim (c := 0) (n := 0) (t := 1) (N := 160) rfl (by decide) (by decide) ac_int (by decide) (by decide) (by decide) rfl rfl dX8_init_17 ?_
  show AW G mX8_init (d + 1) 0 0 K 19 [some (.ref 35)] [.ref 37, .ref 35] ((zI_X8_init_35_2 I), (zJ_X8_init_35_2 J), ((zR_X8_init_35_3 r), kdn 6, 6))
  refine TW.putR (o := some 37) fX8_15_8 (kdn_at (n := 6) (a := 35) (k := (0, 8)) (by decide) rfl) rfl (Or.inr ⟨rfl, fX8_15_8o⟩) dX8_init_19 ?_
  show AW G mX8_init (d + 1) 0 0 K 22 [some (.ref 35)] [] ((zI_X8_init_35_2 I), (zJ_X8_init_35_2 J), ((zR_X8_init_35_4 r), kdn 6, 6))
  exact AW.vret (st := []) dX8_init_22 rfl hK
def zI_X2_init_41_1 (I : Nat → Nat → Int32) : Nat → Nat → Int32 := u2 I 41 0 (0 : Int32)
def zR_X2_init_41_1 (r : Nat → Nat → Option Nat) : Nat → Nat → Option Nat := u2 r 41 1 (some 40)
def zI_X2_init_41_2 (I : Nat → Nat → Int32) : Nat → Nat → Int32 := u2 (zI_X2_init_41_1 I) 41 2 (3 : Int32)
theorem k_X2_init_41 {G : Gd} {d : Nat} {K : Ah → Option Value → Prop} {I : Nat → Nat → Int32} {J : Nat → Nat → Int64} {r : Nat → Nat → Option Nat}  (hK : K ((zI_X2_init_41_2 I), J, ((zR_X2_init_41_1 r), kdn 10, 10)) none) : AM G (d + 1) 0 0 mX2_init [.ref 41, .int (0 : Int32), .ref 40, .int (3 : Int32)] (I, J, (r, kdn 10, 10)) K := by
  refine AM.intro okX2_init.2.2.2.1 (Nat.le_of_ble_eq_true rfl) [some (.ref 41), some (.int (0 : Int32)), some (.ref 40), some (.int (3 : Int32))] rfl ?_
  refine AW.aload_n dX2_init_0 rfl ?_
  refine AW.obj obX2_3 ob_i ob_c dX2_init_1 (Nat.le_of_ble_eq_true rfl) ?_
  refine AW.aload_n dX2_init_4 rfl ?_
  refine AW.iload_n dX2_init_5 rfl ?_
  refine TW.putI fX2_9_2 (kdn_at (n := 10) (a := 41) (k := (0, 2)) (by decide) rfl) (Or.inr ⟨rfl, fX2_9_2o⟩) dX2_init_6 ?_
  show AW G mX2_init (d + 1) 0 0 K 9 [some (.ref 41), some (.int (0 : Int32)), some (.ref 40), some (.int (3 : Int32))] [] ((zI_X2_init_41_1 I), J, (r, kdn 10, 10))
  refine AW.aload_n dX2_init_9 rfl ?_
  refine AW.aload_n dX2_init_10 rfl ?_
  refine TW.putR (o := some 40) fX2_15_2 (kdn_at (n := 10) (a := 41) (k := (0, 2)) (by decide) rfl) rfl (Or.inr ⟨rfl, fX2_15_2o⟩) dX2_init_11 ?_
  show AW G mX2_init (d + 1) 0 0 K 14 [some (.ref 41), some (.int (0 : Int32)), some (.ref 40), some (.int (3 : Int32))] [] ((zI_X2_init_41_1 I), J, ((zR_X2_init_41_1 r), kdn 10, 10))
  refine AW.aload_n dX2_init_14 rfl ?_
  refine AW.iload_n dX2_init_15 rfl ?_
  refine TW.putI fX2_19_2 (kdn_at (n := 10) (a := 41) (k := (0, 2)) (by decide) rfl) (Or.inr ⟨rfl, fX2_19_2o⟩) dX2_init_16 ?_
  show AW G mX2_init (d + 1) 0 0 K 19 [some (.ref 41), some (.int (0 : Int32)), some (.ref 40), some (.int (3 : Int32))] [] ((zI_X2_init_41_2 I), J, ((zR_X2_init_41_1 r), kdn 10, 10))
  exact AW.vret (st := []) dX2_init_19 rfl hK
def zI_X0_init_42_1 (I : Nat → Nat → Int32) : Nat → Nat → Int32 := up I 43 (fun _ => 0)
def zJ_X0_init_42_1 (J : Nat → Nat → Int64) : Nat → Nat → Int64 := up J 43 (fun _ => 0)
def zR_X0_init_42_1 (r : Nat → Nat → Option Nat) : Nat → Nat → Option Nat := up r 43 (fun _ => none)
def zR_X0_init_42_2 (r : Nat → Nat → Option Nat) : Nat → Nat → Option Nat := u2 (zR_X0_init_42_1 r) 42 1 (some 43)
def zI_X0_init_42_2 (I : Nat → Nat → Int32) : Nat → Nat → Int32 := up (zI_X0_init_42_1 I) 44 (fun _ => 0)
def zJ_X0_init_42_2 (J : Nat → Nat → Int64) : Nat → Nat → Int64 := up (zJ_X0_init_42_1 J) 44 (fun _ => 0)
def zR_X0_init_42_3 (r : Nat → Nat → Option Nat) : Nat → Nat → Option Nat := up (zR_X0_init_42_2 r) 44 (fun _ => none)
def zR_X0_init_42_4 (r : Nat → Nat → Option Nat) : Nat → Nat → Option Nat := u2 (zR_X0_init_42_3 r) 42 2 (some 44)
def zI_X0_init_42_3 (I : Nat → Nat → Int32) : Nat → Nat → Int32 := up (zI_X0_init_42_2 I) 45 (fun _ => 0)
def zJ_X0_init_42_3 (J : Nat → Nat → Int64) : Nat → Nat → Int64 := up (zJ_X0_init_42_2 J) 45 (fun _ => 0)
def zR_X0_init_42_5 (r : Nat → Nat → Option Nat) : Nat → Nat → Option Nat := up (zR_X0_init_42_4 r) 45 (fun _ => none)
def zI_X0_init_42_4 (I : Nat → Nat → Int32) : Nat → Nat → Int32 := u2 (zI_X0_init_42_3 I) 45 0 (6 : Int32)
def zI_X0_init_42_5 (I : Nat → Nat → Int32) : Nat → Nat → Int32 := u2 (zI_X0_init_42_4 I) 45 1 (60 : Int32)
def zI_X0_init_42_6 (I : Nat → Nat → Int32) : Nat → Nat → Int32 := u2 (zI_X0_init_42_5 I) 45 2 (12 : Int32)
def zI_X0_init_42_7 (I : Nat → Nat → Int32) : Nat → Nat → Int32 := u2 (zI_X0_init_42_6 I) 45 3 (100 : Int32)
def zR_X0_init_42_6 (r : Nat → Nat → Option Nat) : Nat → Nat → Option Nat := u2 (zR_X0_init_42_5 r) 42 3 (some 45)
def zI_X0_init_42_8 (I : Nat → Nat → Int32) : Nat → Nat → Int32 := up (zI_X0_init_42_7 I) 46 (fun _ => 0)
def zJ_X0_init_42_4 (J : Nat → Nat → Int64) : Nat → Nat → Int64 := up (zJ_X0_init_42_3 J) 46 (fun _ => 0)
def zR_X0_init_42_7 (r : Nat → Nat → Option Nat) : Nat → Nat → Option Nat := up (zR_X0_init_42_6 r) 46 (fun _ => none)
def zR_X0_init_42_8 (r : Nat → Nat → Option Nat) : Nat → Nat → Option Nat := u2 (zR_X0_init_42_7 r) 42 4 (some 46)
def zI_X0_init_42_9 (I : Nat → Nat → Int32) : Nat → Nat → Int32 := up (zI_X0_init_42_8 I) 47 (fun _ => 0)
def zJ_X0_init_42_5 (J : Nat → Nat → Int64) : Nat → Nat → Int64 := up (zJ_X0_init_42_4 J) 47 (fun _ => 0)
def zR_X0_init_42_9 (r : Nat → Nat → Option Nat) : Nat → Nat → Option Nat := up (zR_X0_init_42_8 r) 47 (fun _ => none)
def zR_X0_init_42_10 (r : Nat → Nat → Option Nat) : Nat → Nat → Option Nat := u2 (zR_X0_init_42_9 r) 42 5 (some 47)
def zR_X0_init_42_11 (r : Nat → Nat → Option Nat) : Nat → Nat → Option Nat := u2 (zR_X0_init_42_10 r) 42 6 (some 41)
theorem k_X0_init_42 {G : Gd} {d : Nat} {K : Ah → Option Value → Prop} {I : Nat → Nat → Int32} {J : Nat → Nat → Int64} {r : Nat → Nat → Option Nat}  (hK : K ((zI_X0_init_42_9 I), (zJ_X0_init_42_5 J), ((zR_X0_init_42_11 r), kdn 16, 16)) none) : AM G (d + 1) 5 44 mX0_init [.ref 42, .ref 41] (I, J, (r, kdn 11, 11)) K := by
  refine AM.intro okX0_init.2.2.2.1 (Nat.le_of_ble_eq_true rfl) [some (.ref 42), some (.ref 41)] rfl ?_
  refine AW.aload_n dX0_init_0 rfl ?_
  refine AW.obj obX0_3 ob_i ob_c dX0_init_1 (Nat.le_of_ble_eq_true rfl) ?_
  refine AW.aload_n dX0_init_4 rfl ?_
  refine AW.bipush (v := (8 : Int32)) dX0_init_5 (by decide) ?_
  refine CW.newPrim (c := 4) (n := 36) (t := 1) (N := 8) rfl (by decide) (by decide) ac_int (by decide) (by decide) (by decide) rfl rfl dX0_init_7 ?_
  show AW G mX0_init (d + 1) 4 36 K 9 [some (.ref 42), some (.ref 41)] [.ref 43, .ref 42] ((zI_X0_init_42_1 I), (zJ_X0_init_42_1 J), ((zR_X0_init_42_1 r), kdn 12, 12))
  refine TW.putR (o := some 43) fX0_9_0 (kdn_at (n := 12) (a := 42) (k := (0, 0)) (by decide) rfl) rfl (Or.inr ⟨rfl, fX0_9_0o⟩) dX0_init_9 ?_
  show AW G mX0_init (d + 1) 4 36 K 12 [some (.ref 42), some (.ref 41)] [] ((zI_X0_init_42_1 I), (zJ_X0_init_42_1 J), ((zR_X0_init_42_2 r), kdn 12, 12))
  refine AW.aload_n dX0_init_12 rfl ?_
  refine AW.bipush (v := (8 : Int32)) dX0_init_13 (by decide) ?_
  refine CW.newPrim (c := 3) (n := 28) (t := 1) (N := 8) rfl (by decide) (by decide) ac_int (by decide) (by decide) (by decide) rfl rfl dX0_init_15 ?_
  show AW G mX0_init (d + 1) 3 28 K 17 [some (.ref 42), some (.ref 41)] [.ref 44, .ref 42] ((zI_X0_init_42_2 I), (zJ_X0_init_42_2 J), ((zR_X0_init_42_3 r), kdn 13, 13))
  refine TW.putR (o := some 44) fX0_15_0 (kdn_at (n := 13) (a := 42) (k := (0, 0)) (by decide) rfl) rfl (Or.inr ⟨rfl, fX0_15_0o⟩) dX0_init_17 ?_
  show AW G mX0_init (d + 1) 3 28 K 20 [some (.ref 42), some (.ref 41)] [] ((zI_X0_init_42_2 I), (zJ_X0_init_42_2 J), ((zR_X0_init_42_4 r), kdn 13, 13))
  refine AW.aload_n dX0_init_20 rfl ?_
  refine AW.iconst (v := (4 : Int32)) dX0_init_21 (by decide) ?_
  refine CW.newPrim (c := 2) (n := 24) (t := 1) (N := 4) rfl (by decide) (by decide) ac_int (by decide) (by decide) (by decide) rfl rfl dX0_init_22 ?_
  show AW G mX0_init (d + 1) 2 24 K 24 [some (.ref 42), some (.ref 41)] [.ref 45, .ref 42] ((zI_X0_init_42_3 I), (zJ_X0_init_42_3 J), ((zR_X0_init_42_5 r), kdn 14, 14))
  refine AW.dup dX0_init_24 rfl ?_
  refine AW.iconst (v := (0 : Int32)) dX0_init_25 (by decide) ?_
  refine AW.bipush (v := (6 : Int32)) dX0_init_26 (by decide) ?_
  refine TW.iast (kdn_at (n := 14) (a := 45) (k := (1, 4)) (by decide) rfl) (show ¬ ((0 : Int32) < 0 ∨ 4 ≤ (0 : Int32).toNatClampNeg) by decide) dX0_init_28 ?_
  show AW G mX0_init (d + 1) 2 24 K 29 [some (.ref 42), some (.ref 41)] [.ref 45, .ref 42] ((zI_X0_init_42_4 I), (zJ_X0_init_42_3 J), ((zR_X0_init_42_5 r), kdn 14, 14))
  refine AW.dup dX0_init_29 rfl ?_
  refine AW.iconst (v := (1 : Int32)) dX0_init_30 (by decide) ?_
  refine AW.bipush (v := (60 : Int32)) dX0_init_31 (by decide) ?_
  refine TW.iast (kdn_at (n := 14) (a := 45) (k := (1, 4)) (by decide) rfl) (show ¬ ((1 : Int32) < 0 ∨ 4 ≤ (1 : Int32).toNatClampNeg) by decide) dX0_init_33 ?_
  show AW G mX0_init (d + 1) 2 24 K 34 [some (.ref 42), some (.ref 41)] [.ref 45, .ref 42] ((zI_X0_init_42_5 I), (zJ_X0_init_42_3 J), ((zR_X0_init_42_5 r), kdn 14, 14))
  refine AW.dup dX0_init_34 rfl ?_
  refine AW.iconst (v := (2 : Int32)) dX0_init_35 (by decide) ?_
  refine AW.bipush (v := (12 : Int32)) dX0_init_36 (by decide) ?_
  refine TW.iast (kdn_at (n := 14) (a := 45) (k := (1, 4)) (by decide) rfl) (show ¬ ((2 : Int32) < 0 ∨ 4 ≤ (2 : Int32).toNatClampNeg) by decide) dX0_init_38 ?_
  show AW G mX0_init (d + 1) 2 24 K 39 [some (.ref 42), some (.ref 41)] [.ref 45, .ref 42] ((zI_X0_init_42_6 I), (zJ_X0_init_42_3 J), ((zR_X0_init_42_5 r), kdn 14, 14))
  refine AW.dup dX0_init_39 rfl ?_
  refine AW.iconst (v := (3 : Int32)) dX0_init_40 (by decide) ?_
  refine AW.bipush (v := (100 : Int32)) dX0_init_41 (by decide) ?_
  refine TW.iast (kdn_at (n := 14) (a := 45) (k := (1, 4)) (by decide) rfl) (show ¬ ((3 : Int32) < 0 ∨ 4 ≤ (3 : Int32).toNatClampNeg) by decide) dX0_init_43 ?_
  show AW G mX0_init (d + 1) 2 24 K 44 [some (.ref 42), some (.ref 41)] [.ref 45, .ref 42] ((zI_X0_init_42_7 I), (zJ_X0_init_42_3 J), ((zR_X0_init_42_5 r), kdn 14, 14))
  refine TW.putR (o := some 45) fX0_18_0 (kdn_at (n := 14) (a := 42) (k := (0, 0)) (by decide) rfl) rfl (Or.inr ⟨rfl, fX0_18_0o⟩) dX0_init_44 ?_
  show AW G mX0_init (d + 1) 2 24 K 47 [some (.ref 42), some (.ref 41)] [] ((zI_X0_init_42_7 I), (zJ_X0_init_42_3 J), ((zR_X0_init_42_6 r), kdn 14, 14))
  refine AW.aload_n dX0_init_47 rfl ?_
  refine AW.bipush (v := (12 : Int32)) dX0_init_48 (by decide) ?_
  refine CW.newPrim (c := 1) (n := 12) (t := 1) (N := 12) rfl (by decide) (by decide) ac_int (by decide) (by decide) (by decide) rfl rfl dX0_init_50 ?_
  show AW G mX0_init (d + 1) 1 12 K 52 [some (.ref 42), some (.ref 41)] [.ref 46, .ref 42] ((zI_X0_init_42_8 I), (zJ_X0_init_42_4 J), ((zR_X0_init_42_7 r), kdn 15, 15))
  refine TW.putR (o := some 46) fX0_21_0 (kdn_at (n := 15) (a := 42) (k := (0, 0)) (by decide) rfl) rfl (Or.inr ⟨rfl, fX0_21_0o⟩) dX0_init_52 ?_
  show AW G mX0_init (d + 1) 1 12 K 55 [some (.ref 42), some (.ref 41)] [] ((zI_X0_init_42_8 I), (zJ_X0_init_42_4 J), ((zR_X0_init_42_8 r), kdn 15, 15))
  refine AW.aload_n dX0_init_55 rfl ?_
  refine AW.bipush (v := (12 : Int32)) dX0_init_56 (by decide) ?_
  refine CW.newPrim (c := 0) (n := 0) (t := 1) (N := 12) rfl (by decide) (by decide) ac_int (by decide) (by decide) (by decide) rfl rfl dX0_init_58 ?_
  show AW G mX0_init (d + 1) 0 0 K 60 [some (.ref 42), some (.ref 41)] [.ref 47, .ref 42] ((zI_X0_init_42_9 I), (zJ_X0_init_42_5 J), ((zR_X0_init_42_9 r), kdn 16, 16))
  refine TW.putR (o := some 47) fX0_24_0 (kdn_at (n := 16) (a := 42) (k := (0, 0)) (by decide) rfl) rfl (Or.inr ⟨rfl, fX0_24_0o⟩) dX0_init_60 ?_
  show AW G mX0_init (d + 1) 0 0 K 63 [some (.ref 42), some (.ref 41)] [] ((zI_X0_init_42_9 I), (zJ_X0_init_42_5 J), ((zR_X0_init_42_10 r), kdn 16, 16))
  refine AW.aload_n dX0_init_63 rfl ?_
  refine AW.aload_n dX0_init_64 rfl ?_
  refine TW.putR (o := some 41) fX0_27_0 (kdn_at (n := 16) (a := 42) (k := (0, 0)) (by decide) rfl) rfl (Or.inl rfl) dX0_init_65 ?_
  show AW G mX0_init (d + 1) 0 0 K 68 [some (.ref 42), some (.ref 41)] [] ((zI_X0_init_42_9 I), (zJ_X0_init_42_5 J), ((zR_X0_init_42_11 r), kdn 16, 16))
  exact AW.vret (st := []) dX0_init_68 rfl hK
def zI_X10_init_48_1 (I : Nat → Nat → Int32) : Nat → Nat → Int32 := zrs 0 (up I 49 (fun _ => 0)) 50 13
def zJ_X10_init_48_1 (J : Nat → Nat → Int64) : Nat → Nat → Int64 := zrs 0 (up J 49 (fun _ => 0)) 50 13
def zR_X10_init_48_1 (r : Nat → Nat → Option Nat) : Nat → Nat → Option Nat := up (zrs none (up r 49 (fun _ => none)) 50 13) 49 (fun i => if i < 13 then some (49 + 1 + i) else none)
def zR_X10_init_48_2 (r : Nat → Nat → Option Nat) : Nat → Nat → Option Nat := u2 (zR_X10_init_48_1 r) 48 1 (some 49)
def zI_X10_init_48_2 (I : Nat → Nat → Int32) : Nat → Nat → Int32 := zrs 0 (up (zI_X10_init_48_1 I) 63 (fun _ => 0)) 64 12
def zJ_X10_init_48_2 (J : Nat → Nat → Int64) : Nat → Nat → Int64 := zrs 0 (up (zJ_X10_init_48_1 J) 63 (fun _ => 0)) 64 12
def zR_X10_init_48_3 (r : Nat → Nat → Option Nat) : Nat → Nat → Option Nat := up (zrs none (up (zR_X10_init_48_2 r) 63 (fun _ => none)) 64 12) 63 (fun i => if i < 12 then some (63 + 1 + i) else none)
def zR_X10_init_48_4 (r : Nat → Nat → Option Nat) : Nat → Nat → Option Nat := u2 (zR_X10_init_48_3 r) 48 2 (some 63)
def zI_X10_init_48_3 (I : Nat → Nat → Int32) : Nat → Nat → Int32 := up (zI_X10_init_48_2 I) 76 (fun _ => 0)
def zJ_X10_init_48_3 (J : Nat → Nat → Int64) : Nat → Nat → Int64 := up (zJ_X10_init_48_2 J) 76 (fun _ => 0)
def zR_X10_init_48_5 (r : Nat → Nat → Option Nat) : Nat → Nat → Option Nat := up (zR_X10_init_48_4 r) 76 (fun _ => none)
def zR_X10_init_48_6 (r : Nat → Nat → Option Nat) : Nat → Nat → Option Nat := u2 (zR_X10_init_48_5 r) 48 3 (some 76)
def zI_X10_init_48_4 (I : Nat → Nat → Int32) : Nat → Nat → Int32 := up (zI_X10_init_48_3 I) 77 (fun _ => 0)
def zJ_X10_init_48_4 (J : Nat → Nat → Int64) : Nat → Nat → Int64 := up (zJ_X10_init_48_3 J) 77 (fun _ => 0)
def zR_X10_init_48_7 (r : Nat → Nat → Option Nat) : Nat → Nat → Option Nat := up (zR_X10_init_48_6 r) 77 (fun _ => none)
def zR_X10_init_48_8 (r : Nat → Nat → Option Nat) : Nat → Nat → Option Nat := u2 (zR_X10_init_48_7 r) 48 4 (some 77)
def zI_X10_init_48_5 (I : Nat → Nat → Int32) : Nat → Nat → Int32 := up (zI_X10_init_48_4 I) 78 (fun _ => 0)
def zJ_X10_init_48_5 (J : Nat → Nat → Int64) : Nat → Nat → Int64 := up (zJ_X10_init_48_4 J) 78 (fun _ => 0)
def zR_X10_init_48_9 (r : Nat → Nat → Option Nat) : Nat → Nat → Option Nat := up (zR_X10_init_48_8 r) 78 (fun _ => none)
def zR_X10_init_48_10 (r : Nat → Nat → Option Nat) : Nat → Nat → Option Nat := u2 (zR_X10_init_48_9 r) 48 5 (some 78)
def zI_X10_init_48_6 (I : Nat → Nat → Int32) : Nat → Nat → Int32 := up (zI_X10_init_48_5 I) 79 (fun _ => 0)
def zJ_X10_init_48_6 (J : Nat → Nat → Int64) : Nat → Nat → Int64 := up (zJ_X10_init_48_5 J) 79 (fun _ => 0)
def zR_X10_init_48_11 (r : Nat → Nat → Option Nat) : Nat → Nat → Option Nat := up (zR_X10_init_48_10 r) 79 (fun _ => none)
def zR_X10_init_48_12 (r : Nat → Nat → Option Nat) : Nat → Nat → Option Nat := u2 (zR_X10_init_48_11 r) 48 6 (some 79)
def zI_X10_init_48_7 (I : Nat → Nat → Int32) : Nat → Nat → Int32 := up (zI_X10_init_48_6 I) 80 (fun _ => 0)
def zJ_X10_init_48_7 (J : Nat → Nat → Int64) : Nat → Nat → Int64 := up (zJ_X10_init_48_6 J) 80 (fun _ => 0)
def zR_X10_init_48_13 (r : Nat → Nat → Option Nat) : Nat → Nat → Option Nat := up (zR_X10_init_48_12 r) 80 (fun _ => none)
def zR_X10_init_48_14 (r : Nat → Nat → Option Nat) : Nat → Nat → Option Nat := u2 (zR_X10_init_48_13 r) 48 7 (some 80)
def zR_X10_init_48_15 (r : Nat → Nat → Option Nat) : Nat → Nat → Option Nat := u2 (zR_X10_init_48_14 r) 48 0 (some 42)
theorem k_X10_init_48 {G : Gd} {d : Nat} {K : Ah → Option Value → Prop} {I : Nat → Nat → Int32} {J : Nat → Nat → Int64} {r : Nat → Nat → Option Nat}  (hK : K ((zI_X10_init_48_7 I), (zJ_X10_init_48_7 J), ((zR_X10_init_48_15 r), kdn 49, 49)) none) : AM G (d + 1) 32 425 mX10_init [.ref 48, .ref 42] (I, J, (r, kdn 17, 17)) K := by
  refine AM.intro okX10_init.2.2.2.1 (Nat.le_of_ble_eq_true rfl) [some (.ref 48), some (.ref 42)] rfl ?_
  refine AW.aload_n dX10_init_0 rfl ?_
  refine AW.obj obX10_3 ob_i ob_c dX10_init_1 (Nat.le_of_ble_eq_true rfl) ?_
  refine AW.aload_n dX10_init_4 rfl ?_
  refine AW.bipush (v := (13 : Int32)) dX10_init_5 (by decide) ?_
  refine AW.bipush (v := (8 : Int32)) dX10_init_7 (by decide) ?_
  refine CW.newMulti (c := 18) (n := 308) (N := 13) (Z := 8) clX10_9 ac_int (by decide) (by decide) (by decide) (by decide) (by decide) (by decide) rfl (by decide) rfl dX10_init_9 ?_
  show AW G mX10_init (d + 1) 18 308 K 13 [some (.ref 48), some (.ref 42)] [.ref 49, .ref 48] ((zI_X10_init_48_1 I), (zJ_X10_init_48_1 J), ((zR_X10_init_48_1 r), kdn 31, 31))
  refine TW.putR (o := some 49) fX10_11_10 (kdn_at (n := 31) (a := 48) (k := (0, 10)) (by decide) rfl) rfl (Or.inr ⟨rfl, fX10_11_10o⟩) dX10_init_13 ?_
  show AW G mX10_init (d + 1) 18 308 K 16 [some (.ref 48), some (.ref 42)] [] ((zI_X10_init_48_1 I), (zJ_X10_init_48_1 J), ((zR_X10_init_48_2 r), kdn 31, 31))
  refine AW.aload_n dX10_init_16 rfl ?_
  refine AW.bipush (v := (12 : Int32)) dX10_init_17 (by decide) ?_
  refine AW.bipush (v := (8 : Int32)) dX10_init_19 (by decide) ?_
  refine CW.newMulti (c := 5) (n := 200) (N := 12) (Z := 8) clX10_9 ac_int (by decide) (by decide) (by decide) (by decide) (by decide) (by decide) rfl (by decide) rfl dX10_init_21 ?_
  show AW G mX10_init (d + 1) 5 200 K 25 [some (.ref 48), some (.ref 42)] [.ref 63, .ref 48] ((zI_X10_init_48_2 I), (zJ_X10_init_48_2 J), ((zR_X10_init_48_3 r), kdn 44, 44))
  refine TW.putR (o := some 63) fX10_16_10 (kdn_at (n := 44) (a := 48) (k := (0, 10)) (by decide) rfl) rfl (Or.inr ⟨rfl, fX10_16_10o⟩) dX10_init_25 ?_
  show AW G mX10_init (d + 1) 5 200 K 28 [some (.ref 48), some (.ref 42)] [] ((zI_X10_init_48_2 I), (zJ_X10_init_48_2 J), ((zR_X10_init_48_4 r), kdn 44, 44))
  refine AW.aload_n dX10_init_28 rfl ?_
  refine AW.bipush (v := (13 : Int32)) dX10_init_29 (by decide) ?_
  refine CW.newPrim (c := 4) (n := 187) (t := 1) (N := 13) rfl (by decide) (by decide) ac_int (by decide) (by decide) (by decide) rfl rfl dX10_init_31 ?_
  show AW G mX10_init (d + 1) 4 187 K 33 [some (.ref 48), some (.ref 42)] [.ref 76, .ref 48] ((zI_X10_init_48_3 I), (zJ_X10_init_48_3 J), ((zR_X10_init_48_5 r), kdn 45, 45))
  refine TW.putR (o := some 76) fX10_19_10 (kdn_at (n := 45) (a := 48) (k := (0, 10)) (by decide) rfl) rfl (Or.inr ⟨rfl, fX10_19_10o⟩) dX10_init_33 ?_
  show AW G mX10_init (d + 1) 4 187 K 36 [some (.ref 48), some (.ref 42)] [] ((zI_X10_init_48_3 I), (zJ_X10_init_48_3 J), ((zR_X10_init_48_6 r), kdn 45, 45))
  refine AW.aload_n dX10_init_36 rfl ?_
  refine AW.bipush (v := (13 : Int32)) dX10_init_37 (by decide) ?_
  refine CW.newPrim (c := 3) (n := 174) (t := 1) (N := 13) rfl (by decide) (by decide) ac_int (by decide) (by decide) (by decide) rfl rfl dX10_init_39 ?_
  show AW G mX10_init (d + 1) 3 174 K 41 [some (.ref 48), some (.ref 42)] [.ref 77, .ref 48] ((zI_X10_init_48_4 I), (zJ_X10_init_48_4 J), ((zR_X10_init_48_7 r), kdn 46, 46))
  refine TW.putR (o := some 77) fX10_23_10 (kdn_at (n := 46) (a := 48) (k := (0, 10)) (by decide) rfl) rfl (Or.inr ⟨rfl, fX10_23_10o⟩) dX10_init_41 ?_
  show AW G mX10_init (d + 1) 3 174 K 44 [some (.ref 48), some (.ref 42)] [] ((zI_X10_init_48_4 I), (zJ_X10_init_48_4 J), ((zR_X10_init_48_8 r), kdn 46, 46))
  refine AW.aload_n dX10_init_44 rfl ?_
  refine AW.bipush (v := (8 : Int32)) dX10_init_45 (by decide) ?_
  refine CW.newPrim (c := 2) (n := 166) (t := 2) (N := 8) rfl (by decide) (by decide) ac_long (by decide) (by decide) (by decide) rfl rfl dX10_init_47 ?_
  show AW G mX10_init (d + 1) 2 166 K 49 [some (.ref 48), some (.ref 42)] [.ref 78, .ref 48] ((zI_X10_init_48_5 I), (zJ_X10_init_48_5 J), ((zR_X10_init_48_9 r), kdn 47, 47))
  refine TW.putR (o := some 78) fX10_26_10 (kdn_at (n := 47) (a := 48) (k := (0, 10)) (by decide) rfl) rfl (Or.inr ⟨rfl, fX10_26_10o⟩) dX10_init_49 ?_
  show AW G mX10_init (d + 1) 2 166 K 52 [some (.ref 48), some (.ref 42)] [] ((zI_X10_init_48_5 I), (zJ_X10_init_48_5 J), ((zR_X10_init_48_10 r), kdn 47, 47))
  refine AW.aload_n dX10_init_52 rfl ?_
  refine AW.bipush (v := (6 : Int32)) dX10_init_53 (by decide) ?_
  refine CW.newPrim (c := 1) (n := 160) (t := 1) (N := 6) rfl (by decide) (by decide) ac_int (by decide) (by decide) (by decide) rfl rfl dX10_init_55 ?_
  show AW G mX10_init (d + 1) 1 160 K 57 [some (.ref 48), some (.ref 42)] [.ref 79, .ref 48] ((zI_X10_init_48_6 I), (zJ_X10_init_48_6 J), ((zR_X10_init_48_11 r), kdn 48, 48))
  refine TW.putR (o := some 79) fX10_30_10 (kdn_at (n := 48) (a := 48) (k := (0, 10)) (by decide) rfl) rfl (Or.inr ⟨rfl, fX10_30_10o⟩) dX10_init_57 ?_
  show AW G mX10_init (d + 1) 1 160 K 60 [some (.ref 48), some (.ref 42)] [] ((zI_X10_init_48_6 I), (zJ_X10_init_48_6 J), ((zR_X10_init_48_12 r), kdn 48, 48))
  refine AW.aload_n dX10_init_60 rfl ?_
  refine AW.sipush (v := (160 : Int32)) dX10_init_61 (by decide) ?_
  refine CW.newPrim (c := 0) (n := 0) (t := 1) (N := 160) rfl (by decide) (by decide) ac_int (by decide) (by decide) (by decide) rfl rfl dX10_init_64 ?_
  show AW G mX10_init (d + 1) 0 0 K 66 [some (.ref 48), some (.ref 42)] [.ref 80, .ref 48] ((zI_X10_init_48_7 I), (zJ_X10_init_48_7 J), ((zR_X10_init_48_13 r), kdn 49, 49))
  refine TW.putR (o := some 80) fX10_33_10 (kdn_at (n := 49) (a := 48) (k := (0, 10)) (by decide) rfl) rfl (Or.inr ⟨rfl, fX10_33_10o⟩) dX10_init_66 ?_
  show AW G mX10_init (d + 1) 0 0 K 69 [some (.ref 48), some (.ref 42)] [] ((zI_X10_init_48_7 I), (zJ_X10_init_48_7 J), ((zR_X10_init_48_14 r), kdn 49, 49))
  refine AW.aload_n dX10_init_69 rfl ?_
  refine AW.aload_n dX10_init_70 rfl ?_
  refine TW.putR (o := some 42) fX10_36_10 (kdn_at (n := 49) (a := 48) (k := (0, 10)) (by decide) rfl) rfl (Or.inr ⟨rfl, fX10_36_10o⟩) dX10_init_71 ?_
  show AW G mX10_init (d + 1) 0 0 K 74 [some (.ref 48), some (.ref 42)] [] ((zI_X10_init_48_7 I), (zJ_X10_init_48_7 J), ((zR_X10_init_48_15 r), kdn 49, 49))
  exact AW.vret (st := []) dX10_init_74 rfl hK
def zI_X7_init_81_1 (I : Nat → Nat → Int32) : Nat → Nat → Int32 := u2 I 81 0 (-1 : Int32)
def zI_X7_init_81_2 (I : Nat → Nat → Int32) : Nat → Nat → Int32 := up (zI_X7_init_81_1 I) 82 (fun _ => 0)
def zJ_X7_init_81_1 (J : Nat → Nat → Int64) : Nat → Nat → Int64 := up J 82 (fun _ => 0)
def zR_X7_init_81_1 (r : Nat → Nat → Option Nat) : Nat → Nat → Option Nat := up r 82 (fun _ => none)
def zR_X7_init_81_2 (r : Nat → Nat → Option Nat) : Nat → Nat → Option Nat := u2 (zR_X7_init_81_1 r) 81 2 (some 82)
theorem k_X7_init_81 {G : Gd} {d : Nat} {K : Ah → Option Value → Prop} {I : Nat → Nat → Int32} {J : Nat → Nat → Int64} {r : Nat → Nat → Option Nat}  (hK : K ((zI_X7_init_81_2 I), (zJ_X7_init_81_1 J), ((zR_X7_init_81_2 r), kdn 51, 51)) none) : AM G (d + 1) 1 40 mX7_init [.ref 81] (I, J, (r, kdn 50, 50)) K := by
  refine AM.intro okX7_init.2.2.2.1 (Nat.le_of_ble_eq_true rfl) [some (.ref 81)] rfl ?_
  refine AW.aload_n dX7_init_0 rfl ?_
  refine AW.obj obX7_3 ob_i ob_c dX7_init_1 (Nat.le_of_ble_eq_true rfl) ?_
  refine AW.aload_n dX7_init_4 rfl ?_
  refine AW.iconst (v := (-1 : Int32)) dX7_init_5 (by decide) ?_
  refine TW.putI fX7_9_7 (kdn_at (n := 50) (a := 81) (k := (0, 7)) (by decide) rfl) (Or.inl rfl) dX7_init_6 ?_
  show AW G mX7_init (d + 1) 1 40 K 9 [some (.ref 81)] [] ((zI_X7_init_81_1 I), J, (r, kdn 50, 50))
  refine AW.aload_n dX7_init_9 rfl ?_
  refine AW.bipush (v := (40 : Int32)) dX7_init_10 (by decide) ?_
  refine CW.newPrim (c := 0) (n := 0) (t := 1) (N := 40) rfl (by decide) (by decide) ac_int (by decide) (by decide) (by decide) rfl rfl dX7_init_12 ?_
  show AW G mX7_init (d + 1) 0 0 K 14 [some (.ref 81)] [.ref 82, .ref 81] ((zI_X7_init_81_2 I), (zJ_X7_init_81_1 J), ((zR_X7_init_81_1 r), kdn 51, 51))
  refine TW.putR (o := some 82) fX7_15_7 (kdn_at (n := 51) (a := 81) (k := (0, 7)) (by decide) rfl) rfl (Or.inr ⟨rfl, fX7_15_7o⟩) dX7_init_14 ?_
  show AW G mX7_init (d + 1) 0 0 K 17 [some (.ref 81)] [] ((zI_X7_init_81_2 I), (zJ_X7_init_81_1 J), ((zR_X7_init_81_2 r), kdn 51, 51))
  exact AW.vret (st := []) dX7_init_17 rfl hK
def zI_X7_init_83_1 (I : Nat → Nat → Int32) : Nat → Nat → Int32 := u2 I 83 0 (-1 : Int32)
def zI_X7_init_83_2 (I : Nat → Nat → Int32) : Nat → Nat → Int32 := up (zI_X7_init_83_1 I) 84 (fun _ => 0)
def zJ_X7_init_83_1 (J : Nat → Nat → Int64) : Nat → Nat → Int64 := up J 84 (fun _ => 0)
def zR_X7_init_83_1 (r : Nat → Nat → Option Nat) : Nat → Nat → Option Nat := up r 84 (fun _ => none)
def zR_X7_init_83_2 (r : Nat → Nat → Option Nat) : Nat → Nat → Option Nat := u2 (zR_X7_init_83_1 r) 83 2 (some 84)
theorem k_X7_init_83 {G : Gd} {d : Nat} {K : Ah → Option Value → Prop} {I : Nat → Nat → Int32} {J : Nat → Nat → Int64} {r : Nat → Nat → Option Nat}  (hK : K ((zI_X7_init_83_2 I), (zJ_X7_init_83_1 J), ((zR_X7_init_83_2 r), kdn 53, 53)) none) : AM G (d + 1) 1 40 mX7_init [.ref 83] (I, J, (r, kdn 52, 52)) K := by
  refine AM.intro okX7_init.2.2.2.1 (Nat.le_of_ble_eq_true rfl) [some (.ref 83)] rfl ?_
  refine AW.aload_n dX7_init_0 rfl ?_
  refine AW.obj obX7_3 ob_i ob_c dX7_init_1 (Nat.le_of_ble_eq_true rfl) ?_
  refine AW.aload_n dX7_init_4 rfl ?_
  refine AW.iconst (v := (-1 : Int32)) dX7_init_5 (by decide) ?_
  refine TW.putI fX7_9_7 (kdn_at (n := 52) (a := 83) (k := (0, 7)) (by decide) rfl) (Or.inl rfl) dX7_init_6 ?_
  show AW G mX7_init (d + 1) 1 40 K 9 [some (.ref 83)] [] ((zI_X7_init_83_1 I), J, (r, kdn 52, 52))
  refine AW.aload_n dX7_init_9 rfl ?_
  refine AW.bipush (v := (40 : Int32)) dX7_init_10 (by decide) ?_
  refine CW.newPrim (c := 0) (n := 0) (t := 1) (N := 40) rfl (by decide) (by decide) ac_int (by decide) (by decide) (by decide) rfl rfl dX7_init_12 ?_
  show AW G mX7_init (d + 1) 0 0 K 14 [some (.ref 83)] [.ref 84, .ref 83] ((zI_X7_init_83_2 I), (zJ_X7_init_83_1 J), ((zR_X7_init_83_1 r), kdn 53, 53))
  refine TW.putR (o := some 84) fX7_15_7 (kdn_at (n := 53) (a := 83) (k := (0, 7)) (by decide) rfl) rfl (Or.inr ⟨rfl, fX7_15_7o⟩) dX7_init_14 ?_
  show AW G mX7_init (d + 1) 0 0 K 17 [some (.ref 83)] [] ((zI_X7_init_83_2 I), (zJ_X7_init_83_1 J), ((zR_X7_init_83_2 r), kdn 53, 53))
  exact AW.vret (st := []) dX7_init_17 rfl hK
def zI_X7_init_85_1 (I : Nat → Nat → Int32) : Nat → Nat → Int32 := u2 I 85 0 (-1 : Int32)
def zI_X7_init_85_2 (I : Nat → Nat → Int32) : Nat → Nat → Int32 := up (zI_X7_init_85_1 I) 86 (fun _ => 0)
def zJ_X7_init_85_1 (J : Nat → Nat → Int64) : Nat → Nat → Int64 := up J 86 (fun _ => 0)
def zR_X7_init_85_1 (r : Nat → Nat → Option Nat) : Nat → Nat → Option Nat := up r 86 (fun _ => none)
def zR_X7_init_85_2 (r : Nat → Nat → Option Nat) : Nat → Nat → Option Nat := u2 (zR_X7_init_85_1 r) 85 2 (some 86)
theorem k_X7_init_85 {G : Gd} {d : Nat} {K : Ah → Option Value → Prop} {I : Nat → Nat → Int32} {J : Nat → Nat → Int64} {r : Nat → Nat → Option Nat}  (hK : K ((zI_X7_init_85_2 I), (zJ_X7_init_85_1 J), ((zR_X7_init_85_2 r), kdn 55, 55)) none) : AM G (d + 1) 1 40 mX7_init [.ref 85] (I, J, (r, kdn 54, 54)) K := by
  refine AM.intro okX7_init.2.2.2.1 (Nat.le_of_ble_eq_true rfl) [some (.ref 85)] rfl ?_
  refine AW.aload_n dX7_init_0 rfl ?_
  refine AW.obj obX7_3 ob_i ob_c dX7_init_1 (Nat.le_of_ble_eq_true rfl) ?_
  refine AW.aload_n dX7_init_4 rfl ?_
  refine AW.iconst (v := (-1 : Int32)) dX7_init_5 (by decide) ?_
  refine TW.putI fX7_9_7 (kdn_at (n := 54) (a := 85) (k := (0, 7)) (by decide) rfl) (Or.inl rfl) dX7_init_6 ?_
  show AW G mX7_init (d + 1) 1 40 K 9 [some (.ref 85)] [] ((zI_X7_init_85_1 I), J, (r, kdn 54, 54))
  refine AW.aload_n dX7_init_9 rfl ?_
  refine AW.bipush (v := (40 : Int32)) dX7_init_10 (by decide) ?_
  refine CW.newPrim (c := 0) (n := 0) (t := 1) (N := 40) rfl (by decide) (by decide) ac_int (by decide) (by decide) (by decide) rfl rfl dX7_init_12 ?_
  show AW G mX7_init (d + 1) 0 0 K 14 [some (.ref 85)] [.ref 86, .ref 85] ((zI_X7_init_85_2 I), (zJ_X7_init_85_1 J), ((zR_X7_init_85_1 r), kdn 55, 55))
  refine TW.putR (o := some 86) fX7_15_7 (kdn_at (n := 55) (a := 85) (k := (0, 7)) (by decide) rfl) rfl (Or.inr ⟨rfl, fX7_15_7o⟩) dX7_init_14 ?_
  show AW G mX7_init (d + 1) 0 0 K 17 [some (.ref 85)] [] ((zI_X7_init_85_2 I), (zJ_X7_init_85_1 J), ((zR_X7_init_85_2 r), kdn 55, 55))
  exact AW.vret (st := []) dX7_init_17 rfl hK
def zI_X7_init_87_1 (I : Nat → Nat → Int32) : Nat → Nat → Int32 := u2 I 87 0 (-1 : Int32)
def zI_X7_init_87_2 (I : Nat → Nat → Int32) : Nat → Nat → Int32 := up (zI_X7_init_87_1 I) 88 (fun _ => 0)
def zJ_X7_init_87_1 (J : Nat → Nat → Int64) : Nat → Nat → Int64 := up J 88 (fun _ => 0)
def zR_X7_init_87_1 (r : Nat → Nat → Option Nat) : Nat → Nat → Option Nat := up r 88 (fun _ => none)
def zR_X7_init_87_2 (r : Nat → Nat → Option Nat) : Nat → Nat → Option Nat := u2 (zR_X7_init_87_1 r) 87 2 (some 88)
theorem k_X7_init_87 {G : Gd} {d : Nat} {K : Ah → Option Value → Prop} {I : Nat → Nat → Int32} {J : Nat → Nat → Int64} {r : Nat → Nat → Option Nat}  (hK : K ((zI_X7_init_87_2 I), (zJ_X7_init_87_1 J), ((zR_X7_init_87_2 r), kdn 57, 57)) none) : AM G (d + 1) 1 40 mX7_init [.ref 87] (I, J, (r, kdn 56, 56)) K := by
  refine AM.intro okX7_init.2.2.2.1 (Nat.le_of_ble_eq_true rfl) [some (.ref 87)] rfl ?_
  refine AW.aload_n dX7_init_0 rfl ?_
  refine AW.obj obX7_3 ob_i ob_c dX7_init_1 (Nat.le_of_ble_eq_true rfl) ?_
  refine AW.aload_n dX7_init_4 rfl ?_
  refine AW.iconst (v := (-1 : Int32)) dX7_init_5 (by decide) ?_
  refine TW.putI fX7_9_7 (kdn_at (n := 56) (a := 87) (k := (0, 7)) (by decide) rfl) (Or.inl rfl) dX7_init_6 ?_
  show AW G mX7_init (d + 1) 1 40 K 9 [some (.ref 87)] [] ((zI_X7_init_87_1 I), J, (r, kdn 56, 56))
  refine AW.aload_n dX7_init_9 rfl ?_
  refine AW.bipush (v := (40 : Int32)) dX7_init_10 (by decide) ?_
  refine CW.newPrim (c := 0) (n := 0) (t := 1) (N := 40) rfl (by decide) (by decide) ac_int (by decide) (by decide) (by decide) rfl rfl dX7_init_12 ?_
  show AW G mX7_init (d + 1) 0 0 K 14 [some (.ref 87)] [.ref 88, .ref 87] ((zI_X7_init_87_2 I), (zJ_X7_init_87_1 J), ((zR_X7_init_87_1 r), kdn 57, 57))
  refine TW.putR (o := some 88) fX7_15_7 (kdn_at (n := 57) (a := 87) (k := (0, 7)) (by decide) rfl) rfl (Or.inr ⟨rfl, fX7_15_7o⟩) dX7_init_14 ?_
  show AW G mX7_init (d + 1) 0 0 K 17 [some (.ref 87)] [] ((zI_X7_init_87_2 I), (zJ_X7_init_87_1 J), ((zR_X7_init_87_2 r), kdn 57, 57))
  exact AW.vret (st := []) dX7_init_17 rfl hK
def zI_X11_init_32_1 (I : Nat → Nat → Int32) : Nat → Nat → Int32 := up I 33 (fun _ => 0)
def zJ_X11_init_32_1 (J : Nat → Nat → Int64) : Nat → Nat → Int64 := up J 33 (fun _ => 0)
def zR_X11_init_32_1 (r : Nat → Nat → Option Nat) : Nat → Nat → Option Nat := up r 33 (fun _ => none)
def zR_X11_init_32_2 (r : Nat → Nat → Option Nat) : Nat → Nat → Option Nat := u2 (zR_X11_init_32_1 r) 32 2 (some 33)
def zI_X11_init_32_2 (I : Nat → Nat → Int32) : Nat → Nat → Int32 := up (zI_X11_init_32_1 I) 34 (fun _ => 0)
def zJ_X11_init_32_2 (J : Nat → Nat → Int64) : Nat → Nat → Int64 := up (zJ_X11_init_32_1 J) 34 (fun _ => 0)
def zR_X11_init_32_3 (r : Nat → Nat → Option Nat) : Nat → Nat → Option Nat := up (zR_X11_init_32_2 r) 34 (fun _ => none)
def zR_X11_init_32_4 (r : Nat → Nat → Option Nat) : Nat → Nat → Option Nat := u2 (zR_X11_init_32_3 r) 32 4 (some 34)
def zI_X11_init_32_3 (I : Nat → Nat → Int32) : Nat → Nat → Int32 := up (zI_X11_init_32_2 I) 35 (fun _ => 0)
def zJ_X11_init_32_3 (J : Nat → Nat → Int64) : Nat → Nat → Int64 := up (zJ_X11_init_32_2 J) 35 (fun _ => 0)
def zR_X11_init_32_5 (r : Nat → Nat → Option Nat) : Nat → Nat → Option Nat := up (zR_X11_init_32_4 r) 35 (fun _ => none)
def zI_X11_init_32_4 (I : Nat → Nat → Int32) : Nat → Nat → Int32 := zI_X8_init_35_2 (zI_X11_init_32_3 I)
def zJ_X11_init_32_4 (J : Nat → Nat → Int64) : Nat → Nat → Int64 := zJ_X8_init_35_2 (zJ_X11_init_32_3 J)
def zR_X11_init_32_6 (r : Nat → Nat → Option Nat) : Nat → Nat → Option Nat := zR_X8_init_35_4 (zR_X11_init_32_5 r)
def zR_X11_init_32_7 (r : Nat → Nat → Option Nat) : Nat → Nat → Option Nat := u2 (zR_X11_init_32_6 r) 32 6 (some 35)
def zI_X11_init_32_5 (I : Nat → Nat → Int32) : Nat → Nat → Int32 := up (zI_X11_init_32_4 I) 38 (fun _ => 0)
def zJ_X11_init_32_5 (J : Nat → Nat → Int64) : Nat → Nat → Int64 := up (zJ_X11_init_32_4 J) 38 (fun _ => 0)
def zR_X11_init_32_8 (r : Nat → Nat → Option Nat) : Nat → Nat → Option Nat := up (zR_X11_init_32_7 r) 38 (fun _ => none)
def zR_X11_init_32_9 (r : Nat → Nat → Option Nat) : Nat → Nat → Option Nat := u2 (zR_X11_init_32_8 r) 32 7 (some 38)
def zI_X11_init_32_6 (I : Nat → Nat → Int32) : Nat → Nat → Int32 := up (zI_X11_init_32_5 I) 39 (fun _ => 0)
def zJ_X11_init_32_6 (J : Nat → Nat → Int64) : Nat → Nat → Int64 := up (zJ_X11_init_32_5 J) 39 (fun _ => 0)
def zR_X11_init_32_10 (r : Nat → Nat → Option Nat) : Nat → Nat → Option Nat := up (zR_X11_init_32_9 r) 39 (fun _ => none)
def zR_X11_init_32_11 (r : Nat → Nat → Option Nat) : Nat → Nat → Option Nat := u2 (zR_X11_init_32_10 r) 32 9 (some 39)
def zI_X11_init_32_7 (I : Nat → Nat → Int32) : Nat → Nat → Int32 := up (zI_X11_init_32_6 I) 40 (fun _ => 0)
def zJ_X11_init_32_7 (J : Nat → Nat → Int64) : Nat → Nat → Int64 := up (zJ_X11_init_32_6 J) 40 (fun _ => 0)
def zR_X11_init_32_12 (r : Nat → Nat → Option Nat) : Nat → Nat → Option Nat := up (zR_X11_init_32_11 r) 40 (fun _ => none)
def zI_X11_init_32_8 (I : Nat → Nat → Int32) : Nat → Nat → Int32 := u2 (zI_X11_init_32_7 I) 40 0 (3 : Int32)
def zI_X11_init_32_9 (I : Nat → Nat → Int32) : Nat → Nat → Int32 := u2 (zI_X11_init_32_8 I) 40 1 (-2 : Int32)
def zI_X11_init_32_10 (I : Nat → Nat → Int32) : Nat → Nat → Int32 := u2 (zI_X11_init_32_9 I) 40 2 (-13 : Int32)
def zI_X11_init_32_11 (I : Nat → Nat → Int32) : Nat → Nat → Int32 := u2 (zI_X11_init_32_10 I) 40 3 (-2 : Int32)
def zI_X11_init_32_12 (I : Nat → Nat → Int32) : Nat → Nat → Int32 := u2 (zI_X11_init_32_11 I) 40 4 (4 : Int32)
def zI_X11_init_32_13 (I : Nat → Nat → Int32) : Nat → Nat → Int32 := u2 (zI_X11_init_32_12 I) 40 5 (-15 : Int32)
def zI_X11_init_32_14 (I : Nat → Nat → Int32) : Nat → Nat → Int32 := up (zI_X11_init_32_13 I) 41 (fun _ => 0)
def zJ_X11_init_32_8 (J : Nat → Nat → Int64) : Nat → Nat → Int64 := up (zJ_X11_init_32_7 J) 41 (fun _ => 0)
def zR_X11_init_32_13 (r : Nat → Nat → Option Nat) : Nat → Nat → Option Nat := up (zR_X11_init_32_12 r) 41 (fun _ => none)
def zI_X11_init_32_15 (I : Nat → Nat → Int32) : Nat → Nat → Int32 := zI_X2_init_41_2 (zI_X11_init_32_14 I)
def zR_X11_init_32_14 (r : Nat → Nat → Option Nat) : Nat → Nat → Option Nat := zR_X2_init_41_1 (zR_X11_init_32_13 r)
def zR_X11_init_32_15 (r : Nat → Nat → Option Nat) : Nat → Nat → Option Nat := u2 (zR_X11_init_32_14 r) 34 0 (some 41)
def zI_X11_init_32_16 (I : Nat → Nat → Int32) : Nat → Nat → Int32 := u2 (zI_X11_init_32_15 I) 32 5 (1 : Int32)
def zI_X11_init_32_17 (I : Nat → Nat → Int32) : Nat → Nat → Int32 := up (zI_X11_init_32_16 I) 42 (fun _ => 0)
def zJ_X11_init_32_9 (J : Nat → Nat → Int64) : Nat → Nat → Int64 := up (zJ_X11_init_32_8 J) 42 (fun _ => 0)
def zR_X11_init_32_16 (r : Nat → Nat → Option Nat) : Nat → Nat → Option Nat := up (zR_X11_init_32_15 r) 42 (fun _ => none)
def zI_X11_init_32_18 (I : Nat → Nat → Int32) : Nat → Nat → Int32 := zI_X0_init_42_9 (zI_X11_init_32_17 I)
def zJ_X11_init_32_10 (J : Nat → Nat → Int64) : Nat → Nat → Int64 := zJ_X0_init_42_5 (zJ_X11_init_32_9 J)
def zR_X11_init_32_17 (r : Nat → Nat → Option Nat) : Nat → Nat → Option Nat := zR_X0_init_42_11 (zR_X11_init_32_16 r)
def zR_X11_init_32_18 (r : Nat → Nat → Option Nat) : Nat → Nat → Option Nat := u2 (zR_X11_init_32_17 r) 32 0 (some 42)
def zI_X11_init_32_19 (I : Nat → Nat → Int32) : Nat → Nat → Int32 := up (zI_X11_init_32_18 I) 48 (fun _ => 0)
def zJ_X11_init_32_11 (J : Nat → Nat → Int64) : Nat → Nat → Int64 := up (zJ_X11_init_32_10 J) 48 (fun _ => 0)
def zR_X11_init_32_19 (r : Nat → Nat → Option Nat) : Nat → Nat → Option Nat := up (zR_X11_init_32_18 r) 48 (fun _ => none)
def zI_X11_init_32_20 (I : Nat → Nat → Int32) : Nat → Nat → Int32 := zI_X10_init_48_7 (zI_X11_init_32_19 I)
def zJ_X11_init_32_12 (J : Nat → Nat → Int64) : Nat → Nat → Int64 := zJ_X10_init_48_7 (zJ_X11_init_32_11 J)
def zR_X11_init_32_20 (r : Nat → Nat → Option Nat) : Nat → Nat → Option Nat := zR_X10_init_48_15 (zR_X11_init_32_19 r)
def zR_X11_init_32_21 (r : Nat → Nat → Option Nat) : Nat → Nat → Option Nat := u2 (zR_X11_init_32_20 r) 32 8 (some 48)
def zI_X11_init_32_21 (I : Nat → Nat → Int32) : Nat → Nat → Int32 := up (zI_X11_init_32_20 I) 81 (fun _ => 0)
def zJ_X11_init_32_13 (J : Nat → Nat → Int64) : Nat → Nat → Int64 := up (zJ_X11_init_32_12 J) 81 (fun _ => 0)
def zR_X11_init_32_22 (r : Nat → Nat → Option Nat) : Nat → Nat → Option Nat := up (zR_X11_init_32_21 r) 81 (fun _ => none)
def zI_X11_init_32_22 (I : Nat → Nat → Int32) : Nat → Nat → Int32 := zI_X7_init_81_2 (zI_X11_init_32_21 I)
def zJ_X11_init_32_14 (J : Nat → Nat → Int64) : Nat → Nat → Int64 := zJ_X7_init_81_1 (zJ_X11_init_32_13 J)
def zR_X11_init_32_23 (r : Nat → Nat → Option Nat) : Nat → Nat → Option Nat := zR_X7_init_81_2 (zR_X11_init_32_22 r)
def zR_X11_init_32_24 (r : Nat → Nat → Option Nat) : Nat → Nat → Option Nat := u2 (zR_X11_init_32_23 r) 38 0 (some 81)
def zI_X11_init_32_23 (I : Nat → Nat → Int32) : Nat → Nat → Int32 := up (zI_X11_init_32_22 I) 83 (fun _ => 0)
def zJ_X11_init_32_15 (J : Nat → Nat → Int64) : Nat → Nat → Int64 := up (zJ_X11_init_32_14 J) 83 (fun _ => 0)
def zR_X11_init_32_25 (r : Nat → Nat → Option Nat) : Nat → Nat → Option Nat := up (zR_X11_init_32_24 r) 83 (fun _ => none)
def zI_X11_init_32_24 (I : Nat → Nat → Int32) : Nat → Nat → Int32 := zI_X7_init_83_2 (zI_X11_init_32_23 I)
def zJ_X11_init_32_16 (J : Nat → Nat → Int64) : Nat → Nat → Int64 := zJ_X7_init_83_1 (zJ_X11_init_32_15 J)
def zR_X11_init_32_26 (r : Nat → Nat → Option Nat) : Nat → Nat → Option Nat := zR_X7_init_83_2 (zR_X11_init_32_25 r)
def zR_X11_init_32_27 (r : Nat → Nat → Option Nat) : Nat → Nat → Option Nat := u2 (zR_X11_init_32_26 r) 38 1 (some 83)
def zI_X11_init_32_25 (I : Nat → Nat → Int32) : Nat → Nat → Int32 := up (zI_X11_init_32_24 I) 85 (fun _ => 0)
def zJ_X11_init_32_17 (J : Nat → Nat → Int64) : Nat → Nat → Int64 := up (zJ_X11_init_32_16 J) 85 (fun _ => 0)
def zR_X11_init_32_28 (r : Nat → Nat → Option Nat) : Nat → Nat → Option Nat := up (zR_X11_init_32_27 r) 85 (fun _ => none)
def zI_X11_init_32_26 (I : Nat → Nat → Int32) : Nat → Nat → Int32 := zI_X7_init_85_2 (zI_X11_init_32_25 I)
def zJ_X11_init_32_18 (J : Nat → Nat → Int64) : Nat → Nat → Int64 := zJ_X7_init_85_1 (zJ_X11_init_32_17 J)
def zR_X11_init_32_29 (r : Nat → Nat → Option Nat) : Nat → Nat → Option Nat := zR_X7_init_85_2 (zR_X11_init_32_28 r)
def zR_X11_init_32_30 (r : Nat → Nat → Option Nat) : Nat → Nat → Option Nat := u2 (zR_X11_init_32_29 r) 38 2 (some 85)
def zI_X11_init_32_27 (I : Nat → Nat → Int32) : Nat → Nat → Int32 := up (zI_X11_init_32_26 I) 87 (fun _ => 0)
def zJ_X11_init_32_19 (J : Nat → Nat → Int64) : Nat → Nat → Int64 := up (zJ_X11_init_32_18 J) 87 (fun _ => 0)
def zR_X11_init_32_31 (r : Nat → Nat → Option Nat) : Nat → Nat → Option Nat := up (zR_X11_init_32_30 r) 87 (fun _ => none)
def zI_X11_init_32_28 (I : Nat → Nat → Int32) : Nat → Nat → Int32 := zI_X7_init_87_2 (zI_X11_init_32_27 I)
def zJ_X11_init_32_20 (J : Nat → Nat → Int64) : Nat → Nat → Int64 := zJ_X7_init_87_1 (zJ_X11_init_32_19 J)
def zR_X11_init_32_32 (r : Nat → Nat → Option Nat) : Nat → Nat → Option Nat := zR_X7_init_87_2 (zR_X11_init_32_31 r)
def zR_X11_init_32_33 (r : Nat → Nat → Option Nat) : Nat → Nat → Option Nat := u2 (zR_X11_init_32_32 r) 38 3 (some 87)
theorem k_X11_init_32 {G : Gd} {d : Nat} {K : Ah → Option Value → Prop} {I : Nat → Nat → Int32} {J : Nat → Nat → Int64} {r : Nat → Nat → Option Nat}  (hK : K ((zI_X11_init_32_28 I), (zJ_X11_init_32_20 J), ((zR_X11_init_32_33 r), kdn 57, 57)) none) : AM G (d + 2) 56 1028 mX11_init [.ref 32] (I, J, (r, kdn 1, 1)) K := by
  refine AM.intro okX11_init.2.2.2.1 (Nat.le_of_ble_eq_true rfl) [some (.ref 32), none, none, none] rfl ?_
  refine AW.aload_n dX11_init_0 rfl ?_
  refine AW.obj obX11_3 ob_i ob_c dX11_init_1 (Nat.le_of_ble_eq_true rfl) ?_
  refine AW.aload_n dX11_init_4 rfl ?_
  refine AW.bipush (v := (8 : Int32)) dX11_init_5 (by decide) ?_
  refine CW.newArr (c := 55) (n := 1020) (t := 0) (N := 8) rfl (by decide) clX11_9 (by decide) (by decide) (by decide) rfl rfl dX11_init_7 ?_
  show AW G mX11_init (d + 2) 55 1020 K 10 [some (.ref 32), none, none, none] [.ref 33, .ref 32] ((zI_X11_init_32_1 I), (zJ_X11_init_32_1 J), ((zR_X11_init_32_1 r), kdn 2, 2))
  refine TW.putR (o := some 33) fX11_11_11 (kdn_at (n := 2) (a := 32) (k := (0, 11)) (by decide) rfl) rfl (Or.inr ⟨rfl, fX11_11_11o⟩) dX11_init_10 ?_
  show AW G mX11_init (d + 2) 55 1020 K 13 [some (.ref 32), none, none, none] [] ((zI_X11_init_32_1 I), (zJ_X11_init_32_1 J), ((zR_X11_init_32_2 r), kdn 2, 2))
  refine AW.aload_n dX11_init_13 rfl ?_
  refine AW.bipush (v := (6 : Int32)) dX11_init_14 (by decide) ?_
  refine CW.newArr (c := 54) (n := 1014) (t := 1) (N := 6) rfl (by decide) clX11_15 (by decide) (by decide) (by decide) rfl rfl dX11_init_16 ?_
  show AW G mX11_init (d + 2) 54 1014 K 19 [some (.ref 32), none, none, none] [.ref 34, .ref 32] ((zI_X11_init_32_2 I), (zJ_X11_init_32_2 J), ((zR_X11_init_32_3 r), kdn 3, 3))
  refine TW.putR (o := some 34) fX11_17_11 (kdn_at (n := 3) (a := 32) (k := (0, 11)) (by decide) rfl) rfl (Or.inr ⟨rfl, fX11_17_11o⟩) dX11_init_19 ?_
  show AW G mX11_init (d + 2) 54 1014 K 22 [some (.ref 32), none, none, none] [] ((zI_X11_init_32_2 I), (zJ_X11_init_32_2 J), ((zR_X11_init_32_4 r), kdn 3, 3))
  refine AW.aload_n dX11_init_22 rfl ?_
  refine CW.new (c := 53) (n := 1006) nrX11_21 rfl rfl dX11_init_23 ?_
  show AW G mX11_init (d + 2) 53 1006 K 26 [some (.ref 32), none, none, none] [.ref 35, .ref 32] ((zI_X11_init_32_3 I), (zJ_X11_init_32_3 J), ((zR_X11_init_32_5 r), kdn 4, 4))
  refine AW.dup dX11_init_26 rfl ?_
  refine AW.invn (a := 35) (c1 := 2) (n1 := 320) (c := 51) (n := 686) (as := []) (rest := [.ref 35, .ref 32]) nnX11_23 dX11_init_27 rfl rfl (Nat.le_of_ble_eq_true rfl) (k_X8_init_35 ?_)
  show AW G mX11_init (d + 2) 51 686 K 30 [some (.ref 32), none, none, none] [.ref 35, .ref 32] ((zI_X11_init_32_4 I), (zJ_X11_init_32_4 J), ((zR_X11_init_32_6 r), kdn 6, 6))
  refine TW.putR (o := some 35) fX11_24_11 (kdn_at (n := 6) (a := 32) (k := (0, 11)) (by decide) rfl) rfl (Or.inr ⟨rfl, fX11_24_11o⟩) dX11_init_30 ?_
  show AW G mX11_init (d + 2) 51 686 K 33 [some (.ref 32), none, none, none] [] ((zI_X11_init_32_4 I), (zJ_X11_init_32_4 J), ((zR_X11_init_32_7 r), kdn 6, 6))
  refine AW.aload_n dX11_init_33 rfl ?_
  refine AW.iconst (v := (4 : Int32)) dX11_init_34 (by decide) ?_
  refine CW.newArr (c := 50) (n := 682) (t := 2) (N := 4) rfl (by decide) clX11_28 (by decide) (by decide) (by decide) rfl rfl dX11_init_35 ?_
  show AW G mX11_init (d + 2) 50 682 K 38 [some (.ref 32), none, none, none] [.ref 38, .ref 32] ((zI_X11_init_32_5 I), (zJ_X11_init_32_5 J), ((zR_X11_init_32_8 r), kdn 7, 7))
  refine TW.putR (o := some 38) fX11_30_11 (kdn_at (n := 7) (a := 32) (k := (0, 11)) (by decide) rfl) rfl (Or.inr ⟨rfl, fX11_30_11o⟩) dX11_init_38 ?_
  show AW G mX11_init (d + 2) 50 682 K 41 [some (.ref 32), none, none, none] [] ((zI_X11_init_32_5 I), (zJ_X11_init_32_5 J), ((zR_X11_init_32_9 r), kdn 7, 7))
  refine AW.aload_n dX11_init_41 rfl ?_
  refine AW.bipush (v := (8 : Int32)) dX11_init_42 (by decide) ?_
  refine CW.newPrim (c := 49) (n := 674) (t := 2) (N := 8) rfl (by decide) (by decide) ac_long (by decide) (by decide) (by decide) rfl rfl dX11_init_44 ?_
  show AW G mX11_init (d + 2) 49 674 K 46 [some (.ref 32), none, none, none] [.ref 39, .ref 32] ((zI_X11_init_32_6 I), (zJ_X11_init_32_6 J), ((zR_X11_init_32_10 r), kdn 8, 8))
  refine TW.putR (o := some 39) fX11_34_11 (kdn_at (n := 8) (a := 32) (k := (0, 11)) (by decide) rfl) rfl (Or.inr ⟨rfl, fX11_34_11o⟩) dX11_init_46 ?_
  show AW G mX11_init (d + 2) 49 674 K 49 [some (.ref 32), none, none, none] [] ((zI_X11_init_32_6 I), (zJ_X11_init_32_6 J), ((zR_X11_init_32_11 r), kdn 8, 8))
  refine AW.bipush (v := (6 : Int32)) dX11_init_49 (by decide) ?_
  refine CW.newPrim (c := 48) (n := 668) (t := 1) (N := 6) rfl (by decide) (by decide) ac_int (by decide) (by decide) (by decide) rfl rfl dX11_init_51 ?_
  show AW G mX11_init (d + 2) 48 668 K 53 [some (.ref 32), none, none, none] [.ref 40] ((zI_X11_init_32_7 I), (zJ_X11_init_32_7 J), ((zR_X11_init_32_12 r), kdn 9, 9))
  refine AW.dup dX11_init_53 rfl ?_
  refine AW.iconst (v := (0 : Int32)) dX11_init_54 (by decide) ?_
  refine AW.iconst (v := (3 : Int32)) dX11_init_55 (by decide) ?_
  refine TW.iast (kdn_at (n := 9) (a := 40) (k := (1, 6)) (by decide) rfl) (show ¬ ((0 : Int32) < 0 ∨ 6 ≤ (0 : Int32).toNatClampNeg) by decide) dX11_init_56 ?_
  show AW G mX11_init (d + 2) 48 668 K 57 [some (.ref 32), none, none, none] [.ref 40] ((zI_X11_init_32_8 I), (zJ_X11_init_32_7 J), ((zR_X11_init_32_12 r), kdn 9, 9))
  refine AW.dup dX11_init_57 rfl ?_
  refine AW.iconst (v := (1 : Int32)) dX11_init_58 (by decide) ?_
  refine AW.bipush (v := (-2 : Int32)) dX11_init_59 (by decide) ?_
  refine TW.iast (kdn_at (n := 9) (a := 40) (k := (1, 6)) (by decide) rfl) (show ¬ ((1 : Int32) < 0 ∨ 6 ≤ (1 : Int32).toNatClampNeg) by decide) dX11_init_61 ?_
  show AW G mX11_init (d + 2) 48 668 K 62 [some (.ref 32), none, none, none] [.ref 40] ((zI_X11_init_32_9 I), (zJ_X11_init_32_7 J), ((zR_X11_init_32_12 r), kdn 9, 9))
  refine AW.dup dX11_init_62 rfl ?_
  refine AW.iconst (v := (2 : Int32)) dX11_init_63 (by decide) ?_
  refine AW.bipush (v := (-13 : Int32)) dX11_init_64 (by decide) ?_
  refine TW.iast (kdn_at (n := 9) (a := 40) (k := (1, 6)) (by decide) rfl) (show ¬ ((2 : Int32) < 0 ∨ 6 ≤ (2 : Int32).toNatClampNeg) by decide) dX11_init_66 ?_
  show AW G mX11_init (d + 2) 48 668 K 67 [some (.ref 32), none, none, none] [.ref 40] ((zI_X11_init_32_10 I), (zJ_X11_init_32_7 J), ((zR_X11_init_32_12 r), kdn 9, 9))
  refine AW.dup dX11_init_67 rfl ?_
  refine AW.iconst (v := (3 : Int32)) dX11_init_68 (by decide) ?_
  refine AW.bipush (v := (-2 : Int32)) dX11_init_69 (by decide) ?_
  refine TW.iast (kdn_at (n := 9) (a := 40) (k := (1, 6)) (by decide) rfl) (show ¬ ((3 : Int32) < 0 ∨ 6 ≤ (3 : Int32).toNatClampNeg) by decide) dX11_init_71 ?_
  show AW G mX11_init (d + 2) 48 668 K 72 [some (.ref 32), none, none, none] [.ref 40] ((zI_X11_init_32_11 I), (zJ_X11_init_32_7 J), ((zR_X11_init_32_12 r), kdn 9, 9))
  refine AW.dup dX11_init_72 rfl ?_
  refine AW.iconst (v := (4 : Int32)) dX11_init_73 (by decide) ?_
  refine AW.iconst (v := (4 : Int32)) dX11_init_74 (by decide) ?_
  refine TW.iast (kdn_at (n := 9) (a := 40) (k := (1, 6)) (by decide) rfl) (show ¬ ((4 : Int32) < 0 ∨ 6 ≤ (4 : Int32).toNatClampNeg) by decide) dX11_init_75 ?_
  show AW G mX11_init (d + 2) 48 668 K 76 [some (.ref 32), none, none, none] [.ref 40] ((zI_X11_init_32_12 I), (zJ_X11_init_32_7 J), ((zR_X11_init_32_12 r), kdn 9, 9))
  refine AW.dup dX11_init_76 rfl ?_
  refine AW.iconst (v := (5 : Int32)) dX11_init_77 (by decide) ?_
  refine AW.bipush (v := (-15 : Int32)) dX11_init_78 (by decide) ?_
  refine TW.iast (kdn_at (n := 9) (a := 40) (k := (1, 6)) (by decide) rfl) (show ¬ ((5 : Int32) < 0 ∨ 6 ≤ (5 : Int32).toNatClampNeg) by decide) dX11_init_80 ?_
  show AW G mX11_init (d + 2) 48 668 K 81 [some (.ref 32), none, none, none] [.ref 40] ((zI_X11_init_32_13 I), (zJ_X11_init_32_7 J), ((zR_X11_init_32_12 r), kdn 9, 9))
  refine AW.astore_n (ls' := [some (.ref 32), some (.ref 40), none, none]) dX11_init_81 (Nat.le_of_ble_eq_true rfl) rfl ?_
  refine CW.new (c := 47) (n := 665) nrX11_15 rfl rfl dX11_init_82 ?_
  show AW G mX11_init (d + 2) 47 665 K 85 [some (.ref 32), some (.ref 40), none, none] [.ref 41] ((zI_X11_init_32_14 I), (zJ_X11_init_32_8 J), ((zR_X11_init_32_13 r), kdn 10, 10))
  refine AW.dup dX11_init_85 rfl ?_
  refine AW.iconst (v := (0 : Int32)) dX11_init_86 (by decide) ?_
  refine AW.aload_n dX11_init_87 rfl ?_
  refine AW.iconst (v := (3 : Int32)) dX11_init_88 (by decide) ?_
  refine AW.invi (a := 41) (c1 := 0) (n1 := 0) (c := 47) (n := 665) (as := [.int (0 : Int32), .ref 40, .int (3 : Int32)]) (rest := [.ref 41]) inX11_38 dX11_init_89 rfl rfl (Nat.le_of_ble_eq_true rfl) (k_X2_init_41 ?_)
  show AW G mX11_init (d + 2) 47 665 K 92 [some (.ref 32), some (.ref 40), none, none] [.ref 41] ((zI_X11_init_32_15 I), (zJ_X11_init_32_8 J), ((zR_X11_init_32_14 r), kdn 10, 10))
  refine AW.astore_n (ls' := [some (.ref 32), some (.ref 40), some (.ref 41), none]) dX11_init_92 (Nat.le_of_ble_eq_true rfl) rfl ?_
  refine AW.aload_n dX11_init_93 rfl ?_
  refine TW.getR (v := .ref 34) fX11_17_11 (kdn_at (n := 10) (a := 32) (k := (0, 11)) (by decide) rfl) (rf_some rfl) dX11_init_94 ?_
  refine AW.iconst (v := (0 : Int32)) dX11_init_97 (by decide) ?_
  refine AW.aload_n dX11_init_98 rfl ?_
  refine TW.aast (t := 1) (kdn_at (n := 10) (a := 34) (k := (5, 6)) (by decide) rfl) (by decide) (show ¬ ((0 : Int32) < 0 ∨ 6 ≤ (0 : Int32).toNatClampNeg) by decide) (kdn_at (n := 10) (a := 41) (k := (0, 2)) (by decide) rfl) (by decide) dX11_init_99 ?_
  show AW G mX11_init (d + 2) 47 665 K 100 [some (.ref 32), some (.ref 40), some (.ref 41), none] [] ((zI_X11_init_32_15 I), (zJ_X11_init_32_8 J), ((zR_X11_init_32_15 r), kdn 10, 10))
  refine AW.aload_n dX11_init_100 rfl ?_
  refine AW.iconst (v := (1 : Int32)) dX11_init_101 (by decide) ?_
  refine TW.putI fX11_41_11 (kdn_at (n := 10) (a := 32) (k := (0, 11)) (by decide) rfl) (Or.inl rfl) dX11_init_102 ?_
  show AW G mX11_init (d + 2) 47 665 K 105 [some (.ref 32), some (.ref 40), some (.ref 41), none] [] ((zI_X11_init_32_16 I), (zJ_X11_init_32_8 J), ((zR_X11_init_32_15 r), kdn 10, 10))
  refine AW.aload_n dX11_init_105 rfl ?_
  refine CW.new (c := 46) (n := 658) nrX11_45 rfl rfl dX11_init_106 ?_
  show AW G mX11_init (d + 2) 46 658 K 109 [some (.ref 32), some (.ref 40), some (.ref 41), none] [.ref 42, .ref 32] ((zI_X11_init_32_17 I), (zJ_X11_init_32_9 J), ((zR_X11_init_32_16 r), kdn 11, 11))
  refine AW.dup dX11_init_109 rfl ?_
  refine AW.aload_n dX11_init_110 rfl ?_
  refine AW.invi (a := 42) (c1 := 5) (n1 := 44) (c := 41) (n := 614) (as := [.ref 41]) (rest := [.ref 42, .ref 32]) inX11_47 dX11_init_111 rfl rfl (Nat.le_of_ble_eq_true rfl) (k_X0_init_42 ?_)
  show AW G mX11_init (d + 2) 41 614 K 114 [some (.ref 32), some (.ref 40), some (.ref 41), none] [.ref 42, .ref 32] ((zI_X11_init_32_18 I), (zJ_X11_init_32_10 J), ((zR_X11_init_32_17 r), kdn 16, 16))
  refine TW.putR (o := some 42) fX11_50_11 (kdn_at (n := 16) (a := 32) (k := (0, 11)) (by decide) rfl) rfl (Or.inr ⟨rfl, fX11_50_11o⟩) dX11_init_114 ?_
  show AW G mX11_init (d + 2) 41 614 K 117 [some (.ref 32), some (.ref 40), some (.ref 41), none] [] ((zI_X11_init_32_18 I), (zJ_X11_init_32_10 J), ((zR_X11_init_32_18 r), kdn 16, 16))
  refine AW.aload_n dX11_init_117 rfl ?_
  refine CW.new (c := 40) (n := 597) nrX11_54 rfl rfl dX11_init_118 ?_
  show AW G mX11_init (d + 2) 40 597 K 121 [some (.ref 32), some (.ref 40), some (.ref 41), none] [.ref 48, .ref 32] ((zI_X11_init_32_19 I), (zJ_X11_init_32_11 J), ((zR_X11_init_32_19 r), kdn 17, 17))
  refine AW.dup dX11_init_121 rfl ?_
  refine AW.aload_n dX11_init_122 rfl ?_
  refine TW.getR (v := .ref 42) fX11_50_11 (kdn_at (n := 17) (a := 32) (k := (0, 11)) (by decide) rfl) (rf_some rfl) dX11_init_123 ?_
  refine AW.invi (a := 48) (c1 := 32) (n1 := 425) (c := 8) (n := 172) (as := [.ref 42]) (rest := [.ref 48, .ref 32]) inX11_56 dX11_init_126 rfl rfl (Nat.le_of_ble_eq_true rfl) (k_X10_init_48 ?_)
  show AW G mX11_init (d + 2) 8 172 K 129 [some (.ref 32), some (.ref 40), some (.ref 41), none] [.ref 48, .ref 32] ((zI_X11_init_32_20 I), (zJ_X11_init_32_12 J), ((zR_X11_init_32_20 r), kdn 49, 49))
  refine TW.putR (o := some 48) fX11_59_11 (kdn_at (n := 49) (a := 32) (k := (0, 11)) (by decide) rfl) rfl (Or.inr ⟨rfl, fX11_59_11o⟩) dX11_init_129 ?_
  show AW G mX11_init (d + 2) 8 172 K 132 [some (.ref 32), some (.ref 40), some (.ref 41), none] [] ((zI_X11_init_32_20 I), (zJ_X11_init_32_12 J), ((zR_X11_init_32_21 r), kdn 49, 49))
  refine AW.iconst (v := (0 : Int32)) dX11_init_132 (by decide) ?_
  refine AW.istore_n (ls' := [some (.ref 32), some (.ref 40), some (.ref 41), some (.int (0 : Int32))]) dX11_init_133 (Nat.le_of_ble_eq_true rfl) rfl ?_
  refine AW.iload_n dX11_init_134 rfl ?_
  refine AW.iconst (v := (4 : Int32)) dX11_init_135 (by decide) ?_
  refine AW.icmp_ge (tgt := 158) dX11_init_136 (by decide) (fun hc => absurd hc (by decide)) (fun hc => ?_)
  refine AW.aload_n dX11_init_139 rfl ?_
  refine TW.getR (v := .ref 38) fX11_30_11 (kdn_at (n := 49) (a := 32) (k := (0, 11)) (by decide) rfl) (rf_some rfl) dX11_init_140 ?_
  refine AW.iload_n dX11_init_143 rfl ?_
  refine CW.new (c := 7) (n := 169) nrX11_28 rfl rfl dX11_init_144 ?_
  show AW G mX11_init (d + 2) 7 169 K 147 [some (.ref 32), some (.ref 40), some (.ref 41), some (.int (0 : Int32))] [.ref 81, .int (0 : Int32), .ref 38] ((zI_X11_init_32_21 I), (zJ_X11_init_32_13 J), ((zR_X11_init_32_22 r), kdn 50, 50))
  refine AW.dup dX11_init_147 rfl ?_
  refine AW.invn (a := 81) (c1 := 1) (n1 := 40) (c := 6) (n := 129) (as := []) (rest := [.ref 81, .int (0 : Int32), .ref 38]) nnX11_63 dX11_init_148 rfl rfl (Nat.le_of_ble_eq_true rfl) (k_X7_init_81 ?_)
  show AW G mX11_init (d + 2) 6 129 K 151 [some (.ref 32), some (.ref 40), some (.ref 41), some (.int (0 : Int32))] [.ref 81, .int (0 : Int32), .ref 38] ((zI_X11_init_32_22 I), (zJ_X11_init_32_14 J), ((zR_X11_init_32_23 r), kdn 51, 51))
  refine TW.aast (t := 2) (kdn_at (n := 51) (a := 38) (k := (6, 4)) (by decide) rfl) (by decide) (show ¬ ((0 : Int32) < 0 ∨ 4 ≤ (0 : Int32).toNatClampNeg) by decide) (kdn_at (n := 51) (a := 81) (k := (0, 7)) (by decide) rfl) (by decide) dX11_init_151 ?_
  show AW G mX11_init (d + 2) 6 129 K 152 [some (.ref 32), some (.ref 40), some (.ref 41), some (.int (0 : Int32))] [] ((zI_X11_init_32_22 I), (zJ_X11_init_32_14 J), ((zR_X11_init_32_24 r), kdn 51, 51))
  refine AW.iinc (v := (1 : Int32)) (ls' := [some (.ref 32), some (.ref 40), some (.ref 41), some (.int (1 : Int32))]) dX11_init_152 rfl (by decide) (Nat.le_of_ble_eq_true rfl) rfl ?_
  refine AW.goto (tgt := 134) dX11_init_155 (by decide) ?_
  refine AW.iload_n dX11_init_134 rfl ?_
  refine AW.iconst (v := (4 : Int32)) dX11_init_135 (by decide) ?_
  refine AW.icmp_ge (tgt := 158) dX11_init_136 (by decide) (fun hc => absurd hc (by decide)) (fun hc => ?_)
  refine AW.aload_n dX11_init_139 rfl ?_
  refine TW.getR (v := .ref 38) fX11_30_11 (kdn_at (n := 51) (a := 32) (k := (0, 11)) (by decide) rfl) (rf_some rfl) dX11_init_140 ?_
  refine AW.iload_n dX11_init_143 rfl ?_
  refine CW.new (c := 5) (n := 126) nrX11_28 rfl rfl dX11_init_144 ?_
  show AW G mX11_init (d + 2) 5 126 K 147 [some (.ref 32), some (.ref 40), some (.ref 41), some (.int (1 : Int32))] [.ref 83, .int (1 : Int32), .ref 38] ((zI_X11_init_32_23 I), (zJ_X11_init_32_15 J), ((zR_X11_init_32_25 r), kdn 52, 52))
  refine AW.dup dX11_init_147 rfl ?_
  refine AW.invn (a := 83) (c1 := 1) (n1 := 40) (c := 4) (n := 86) (as := []) (rest := [.ref 83, .int (1 : Int32), .ref 38]) nnX11_63 dX11_init_148 rfl rfl (Nat.le_of_ble_eq_true rfl) (k_X7_init_83 ?_)
  show AW G mX11_init (d + 2) 4 86 K 151 [some (.ref 32), some (.ref 40), some (.ref 41), some (.int (1 : Int32))] [.ref 83, .int (1 : Int32), .ref 38] ((zI_X11_init_32_24 I), (zJ_X11_init_32_16 J), ((zR_X11_init_32_26 r), kdn 53, 53))
  refine TW.aast (t := 2) (kdn_at (n := 53) (a := 38) (k := (6, 4)) (by decide) rfl) (by decide) (show ¬ ((1 : Int32) < 0 ∨ 4 ≤ (1 : Int32).toNatClampNeg) by decide) (kdn_at (n := 53) (a := 83) (k := (0, 7)) (by decide) rfl) (by decide) dX11_init_151 ?_
  show AW G mX11_init (d + 2) 4 86 K 152 [some (.ref 32), some (.ref 40), some (.ref 41), some (.int (1 : Int32))] [] ((zI_X11_init_32_24 I), (zJ_X11_init_32_16 J), ((zR_X11_init_32_27 r), kdn 53, 53))
  refine AW.iinc (v := (2 : Int32)) (ls' := [some (.ref 32), some (.ref 40), some (.ref 41), some (.int (2 : Int32))]) dX11_init_152 rfl (by decide) (Nat.le_of_ble_eq_true rfl) rfl ?_
  refine AW.goto (tgt := 134) dX11_init_155 (by decide) ?_
  refine AW.iload_n dX11_init_134 rfl ?_
  refine AW.iconst (v := (4 : Int32)) dX11_init_135 (by decide) ?_
  refine AW.icmp_ge (tgt := 158) dX11_init_136 (by decide) (fun hc => absurd hc (by decide)) (fun hc => ?_)
  refine AW.aload_n dX11_init_139 rfl ?_
  refine TW.getR (v := .ref 38) fX11_30_11 (kdn_at (n := 53) (a := 32) (k := (0, 11)) (by decide) rfl) (rf_some rfl) dX11_init_140 ?_
  refine AW.iload_n dX11_init_143 rfl ?_
  refine CW.new (c := 3) (n := 83) nrX11_28 rfl rfl dX11_init_144 ?_
  show AW G mX11_init (d + 2) 3 83 K 147 [some (.ref 32), some (.ref 40), some (.ref 41), some (.int (2 : Int32))] [.ref 85, .int (2 : Int32), .ref 38] ((zI_X11_init_32_25 I), (zJ_X11_init_32_17 J), ((zR_X11_init_32_28 r), kdn 54, 54))
  refine AW.dup dX11_init_147 rfl ?_
  refine AW.invn (a := 85) (c1 := 1) (n1 := 40) (c := 2) (n := 43) (as := []) (rest := [.ref 85, .int (2 : Int32), .ref 38]) nnX11_63 dX11_init_148 rfl rfl (Nat.le_of_ble_eq_true rfl) (k_X7_init_85 ?_)
  show AW G mX11_init (d + 2) 2 43 K 151 [some (.ref 32), some (.ref 40), some (.ref 41), some (.int (2 : Int32))] [.ref 85, .int (2 : Int32), .ref 38] ((zI_X11_init_32_26 I), (zJ_X11_init_32_18 J), ((zR_X11_init_32_29 r), kdn 55, 55))
  refine TW.aast (t := 2) (kdn_at (n := 55) (a := 38) (k := (6, 4)) (by decide) rfl) (by decide) (show ¬ ((2 : Int32) < 0 ∨ 4 ≤ (2 : Int32).toNatClampNeg) by decide) (kdn_at (n := 55) (a := 85) (k := (0, 7)) (by decide) rfl) (by decide) dX11_init_151 ?_
  show AW G mX11_init (d + 2) 2 43 K 152 [some (.ref 32), some (.ref 40), some (.ref 41), some (.int (2 : Int32))] [] ((zI_X11_init_32_26 I), (zJ_X11_init_32_18 J), ((zR_X11_init_32_30 r), kdn 55, 55))
  refine AW.iinc (v := (3 : Int32)) (ls' := [some (.ref 32), some (.ref 40), some (.ref 41), some (.int (3 : Int32))]) dX11_init_152 rfl (by decide) (Nat.le_of_ble_eq_true rfl) rfl ?_
  refine AW.goto (tgt := 134) dX11_init_155 (by decide) ?_
  refine AW.iload_n dX11_init_134 rfl ?_
  refine AW.iconst (v := (4 : Int32)) dX11_init_135 (by decide) ?_
  refine AW.icmp_ge (tgt := 158) dX11_init_136 (by decide) (fun hc => absurd hc (by decide)) (fun hc => ?_)
  refine AW.aload_n dX11_init_139 rfl ?_
  refine TW.getR (v := .ref 38) fX11_30_11 (kdn_at (n := 55) (a := 32) (k := (0, 11)) (by decide) rfl) (rf_some rfl) dX11_init_140 ?_
  refine AW.iload_n dX11_init_143 rfl ?_
  refine CW.new (c := 1) (n := 40) nrX11_28 rfl rfl dX11_init_144 ?_
  show AW G mX11_init (d + 2) 1 40 K 147 [some (.ref 32), some (.ref 40), some (.ref 41), some (.int (3 : Int32))] [.ref 87, .int (3 : Int32), .ref 38] ((zI_X11_init_32_27 I), (zJ_X11_init_32_19 J), ((zR_X11_init_32_31 r), kdn 56, 56))
  refine AW.dup dX11_init_147 rfl ?_
  refine AW.invn (a := 87) (c1 := 1) (n1 := 40) (c := 0) (n := 0) (as := []) (rest := [.ref 87, .int (3 : Int32), .ref 38]) nnX11_63 dX11_init_148 rfl rfl (Nat.le_of_ble_eq_true rfl) (k_X7_init_87 ?_)
  show AW G mX11_init (d + 2) 0 0 K 151 [some (.ref 32), some (.ref 40), some (.ref 41), some (.int (3 : Int32))] [.ref 87, .int (3 : Int32), .ref 38] ((zI_X11_init_32_28 I), (zJ_X11_init_32_20 J), ((zR_X11_init_32_32 r), kdn 57, 57))
  refine TW.aast (t := 2) (kdn_at (n := 57) (a := 38) (k := (6, 4)) (by decide) rfl) (by decide) (show ¬ ((3 : Int32) < 0 ∨ 4 ≤ (3 : Int32).toNatClampNeg) by decide) (kdn_at (n := 57) (a := 87) (k := (0, 7)) (by decide) rfl) (by decide) dX11_init_151 ?_
  show AW G mX11_init (d + 2) 0 0 K 152 [some (.ref 32), some (.ref 40), some (.ref 41), some (.int (3 : Int32))] [] ((zI_X11_init_32_28 I), (zJ_X11_init_32_20 J), ((zR_X11_init_32_33 r), kdn 57, 57))
  refine AW.iinc (v := (4 : Int32)) (ls' := [some (.ref 32), some (.ref 40), some (.ref 41), some (.int (4 : Int32))]) dX11_init_152 rfl (by decide) (Nat.le_of_ble_eq_true rfl) rfl ?_
  refine AW.goto (tgt := 134) dX11_init_155 (by decide) ?_
  refine AW.iload_n dX11_init_134 rfl ?_
  refine AW.iconst (v := (4 : Int32)) dX11_init_135 (by decide) ?_
  refine AW.icmp_ge (tgt := 158) dX11_init_136 (by decide) (fun hc => ?_) (fun hc => absurd hc (by decide))
  exact AW.vret (st := []) dX11_init_158 rfl hK
def zI_X12_init_89_1 (I : Nat → Nat → Int32) : Nat → Nat → Int32 := up I 90 (fun _ => 0)
def zJ_X12_init_89_1 (J : Nat → Nat → Int64) : Nat → Nat → Int64 := up J 90 (fun _ => 0)
def zR_X12_init_89_1 (r : Nat → Nat → Option Nat) : Nat → Nat → Option Nat := up r 90 (fun _ => none)
def zR_X12_init_89_2 (r : Nat → Nat → Option Nat) : Nat → Nat → Option Nat := u2 (zR_X12_init_89_1 r) 89 1 (some 90)
def zI_X12_init_89_2 (I : Nat → Nat → Int32) : Nat → Nat → Int32 := up (zI_X12_init_89_1 I) 91 (fun _ => 0)
def zJ_X12_init_89_2 (J : Nat → Nat → Int64) : Nat → Nat → Int64 := up (zJ_X12_init_89_1 J) 91 (fun _ => 0)
def zR_X12_init_89_3 (r : Nat → Nat → Option Nat) : Nat → Nat → Option Nat := up (zR_X12_init_89_2 r) 91 (fun _ => none)
def zR_X12_init_89_4 (r : Nat → Nat → Option Nat) : Nat → Nat → Option Nat := u2 (zR_X12_init_89_3 r) 89 2 (some 91)
def zI_X12_init_89_3 (I : Nat → Nat → Int32) : Nat → Nat → Int32 := u2 (zI_X12_init_89_2 I) 89 3 (6 : Int32)
def zI_X12_init_89_4 (I : Nat → Nat → Int32) : Nat → Nat → Int32 := u2 (zI_X12_init_89_3 I) 89 4 (60 : Int32)
def zI_X12_init_89_5 (I : Nat → Nat → Int32) : Nat → Nat → Int32 := u2 (zI_X12_init_89_4 I) 89 5 (12 : Int32)
def zI_X12_init_89_6 (I : Nat → Nat → Int32) : Nat → Nat → Int32 := u2 (zI_X12_init_89_5 I) 89 6 (100 : Int32)
def zI_X12_init_89_7 (I : Nat → Nat → Int32) : Nat → Nat → Int32 := up (zI_X12_init_89_6 I) 92 (fun _ => 0)
def zJ_X12_init_89_3 (J : Nat → Nat → Int64) : Nat → Nat → Int64 := up (zJ_X12_init_89_2 J) 92 (fun _ => 0)
def zR_X12_init_89_5 (r : Nat → Nat → Option Nat) : Nat → Nat → Option Nat := up (zR_X12_init_89_4 r) 92 (fun _ => none)
def zR_X12_init_89_6 (r : Nat → Nat → Option Nat) : Nat → Nat → Option Nat := u2 (zR_X12_init_89_5 r) 89 7 (some 92)
def zI_X12_init_89_8 (I : Nat → Nat → Int32) : Nat → Nat → Int32 := up (zI_X12_init_89_7 I) 93 (fun _ => 0)
def zJ_X12_init_89_4 (J : Nat → Nat → Int64) : Nat → Nat → Int64 := up (zJ_X12_init_89_3 J) 93 (fun _ => 0)
def zR_X12_init_89_7 (r : Nat → Nat → Option Nat) : Nat → Nat → Option Nat := up (zR_X12_init_89_6 r) 93 (fun _ => none)
def zR_X12_init_89_8 (r : Nat → Nat → Option Nat) : Nat → Nat → Option Nat := u2 (zR_X12_init_89_7 r) 89 8 (some 93)
def zI_X12_init_89_9 (I : Nat → Nat → Int32) : Nat → Nat → Int32 := up (zI_X12_init_89_8 I) 94 (fun _ => 0)
def zJ_X12_init_89_5 (J : Nat → Nat → Int64) : Nat → Nat → Int64 := up (zJ_X12_init_89_4 J) 94 (fun _ => 0)
def zR_X12_init_89_9 (r : Nat → Nat → Option Nat) : Nat → Nat → Option Nat := up (zR_X12_init_89_8 r) 94 (fun _ => none)
def zR_X12_init_89_10 (r : Nat → Nat → Option Nat) : Nat → Nat → Option Nat := u2 (zR_X12_init_89_9 r) 89 10 (some 94)
def zI_X12_init_89_10 (I : Nat → Nat → Int32) : Nat → Nat → Int32 := up (zI_X12_init_89_9 I) 95 (fun _ => 0)
def zJ_X12_init_89_6 (J : Nat → Nat → Int64) : Nat → Nat → Int64 := up (zJ_X12_init_89_5 J) 95 (fun _ => 0)
def zR_X12_init_89_11 (r : Nat → Nat → Option Nat) : Nat → Nat → Option Nat := up (zR_X12_init_89_10 r) 95 (fun _ => none)
def zR_X12_init_89_12 (r : Nat → Nat → Option Nat) : Nat → Nat → Option Nat := u2 (zR_X12_init_89_11 r) 89 11 (some 95)
def zI_X12_init_89_11 (I : Nat → Nat → Int32) : Nat → Nat → Int32 := up (zI_X12_init_89_10 I) 96 (fun _ => 0)
def zJ_X12_init_89_7 (J : Nat → Nat → Int64) : Nat → Nat → Int64 := up (zJ_X12_init_89_6 J) 96 (fun _ => 0)
def zR_X12_init_89_13 (r : Nat → Nat → Option Nat) : Nat → Nat → Option Nat := up (zR_X12_init_89_12 r) 96 (fun _ => none)
def zR_X12_init_89_14 (r : Nat → Nat → Option Nat) : Nat → Nat → Option Nat := u2 (zR_X12_init_89_13 r) 89 12 (some 96)
def zI_X12_init_89_12 (I : Nat → Nat → Int32) : Nat → Nat → Int32 := up (zI_X12_init_89_11 I) 97 (fun _ => 0)
def zJ_X12_init_89_8 (J : Nat → Nat → Int64) : Nat → Nat → Int64 := up (zJ_X12_init_89_7 J) 97 (fun _ => 0)
def zR_X12_init_89_15 (r : Nat → Nat → Option Nat) : Nat → Nat → Option Nat := up (zR_X12_init_89_14 r) 97 (fun _ => none)
def zR_X12_init_89_16 (r : Nat → Nat → Option Nat) : Nat → Nat → Option Nat := u2 (zR_X12_init_89_15 r) 89 13 (some 97)
def zI_X12_init_89_13 (I : Nat → Nat → Int32) : Nat → Nat → Int32 := up (zI_X12_init_89_12 I) 98 (fun _ => 0)
def zJ_X12_init_89_9 (J : Nat → Nat → Int64) : Nat → Nat → Int64 := up (zJ_X12_init_89_8 J) 98 (fun _ => 0)
def zR_X12_init_89_17 (r : Nat → Nat → Option Nat) : Nat → Nat → Option Nat := up (zR_X12_init_89_16 r) 98 (fun _ => none)
def zR_X12_init_89_18 (r : Nat → Nat → Option Nat) : Nat → Nat → Option Nat := u2 (zR_X12_init_89_17 r) 89 15 (some 98)
def zI_X12_init_89_14 (I : Nat → Nat → Int32) : Nat → Nat → Int32 := up (zI_X12_init_89_13 I) 99 (fun _ => 0)
def zJ_X12_init_89_10 (J : Nat → Nat → Int64) : Nat → Nat → Int64 := up (zJ_X12_init_89_9 J) 99 (fun _ => 0)
def zR_X12_init_89_19 (r : Nat → Nat → Option Nat) : Nat → Nat → Option Nat := up (zR_X12_init_89_18 r) 99 (fun _ => none)
def zR_X12_init_89_20 (r : Nat → Nat → Option Nat) : Nat → Nat → Option Nat := u2 (zR_X12_init_89_19 r) 89 16 (some 99)
def zI_X12_init_89_15 (I : Nat → Nat → Int32) : Nat → Nat → Int32 := u2 (zI_X12_init_89_14 I) 89 17 (1 : Int32)
def zI_X12_init_89_16 (I : Nat → Nat → Int32) : Nat → Nat → Int32 := up (zI_X12_init_89_15 I) 100 (fun _ => 0)
def zJ_X12_init_89_11 (J : Nat → Nat → Int64) : Nat → Nat → Int64 := up (zJ_X12_init_89_10 J) 100 (fun _ => 0)
def zR_X12_init_89_21 (r : Nat → Nat → Option Nat) : Nat → Nat → Option Nat := up (zR_X12_init_89_20 r) 100 (fun _ => none)
def zR_X12_init_89_22 (r : Nat → Nat → Option Nat) : Nat → Nat → Option Nat := u2 (zR_X12_init_89_21 r) 89 19 (some 100)
def zI_X12_init_89_17 (I : Nat → Nat → Int32) : Nat → Nat → Int32 := up (zI_X12_init_89_16 I) 101 (fun _ => 0)
def zJ_X12_init_89_12 (J : Nat → Nat → Int64) : Nat → Nat → Int64 := up (zJ_X12_init_89_11 J) 101 (fun _ => 0)
def zR_X12_init_89_23 (r : Nat → Nat → Option Nat) : Nat → Nat → Option Nat := up (zR_X12_init_89_22 r) 101 (fun _ => none)
def zR_X12_init_89_24 (r : Nat → Nat → Option Nat) : Nat → Nat → Option Nat := u2 (zR_X12_init_89_23 r) 89 20 (some 101)
def zI_X12_init_89_18 (I : Nat → Nat → Int32) : Nat → Nat → Int32 := up (zI_X12_init_89_17 I) 102 (fun _ => 0)
def zJ_X12_init_89_13 (J : Nat → Nat → Int64) : Nat → Nat → Int64 := up (zJ_X12_init_89_12 J) 102 (fun _ => 0)
def zR_X12_init_89_25 (r : Nat → Nat → Option Nat) : Nat → Nat → Option Nat := up (zR_X12_init_89_24 r) 102 (fun _ => none)
def zR_X12_init_89_26 (r : Nat → Nat → Option Nat) : Nat → Nat → Option Nat := u2 (zR_X12_init_89_25 r) 89 21 (some 102)
def zI_X12_init_89_19 (I : Nat → Nat → Int32) : Nat → Nat → Int32 := up (zI_X12_init_89_18 I) 103 (fun _ => 0)
def zJ_X12_init_89_14 (J : Nat → Nat → Int64) : Nat → Nat → Int64 := up (zJ_X12_init_89_13 J) 103 (fun _ => 0)
def zR_X12_init_89_27 (r : Nat → Nat → Option Nat) : Nat → Nat → Option Nat := up (zR_X12_init_89_26 r) 103 (fun _ => none)
def zR_X12_init_89_28 (r : Nat → Nat → Option Nat) : Nat → Nat → Option Nat := u2 (zR_X12_init_89_27 r) 89 22 (some 103)
def zI_X12_init_89_20 (I : Nat → Nat → Int32) : Nat → Nat → Int32 := up (zI_X12_init_89_19 I) 104 (fun _ => 0)
def zJ_X12_init_89_15 (J : Nat → Nat → Int64) : Nat → Nat → Int64 := up (zJ_X12_init_89_14 J) 104 (fun _ => 0)
def zR_X12_init_89_29 (r : Nat → Nat → Option Nat) : Nat → Nat → Option Nat := up (zR_X12_init_89_28 r) 104 (fun _ => none)
def zR_X12_init_89_30 (r : Nat → Nat → Option Nat) : Nat → Nat → Option Nat := u2 (zR_X12_init_89_29 r) 89 31 (some 104)
def zI_X12_init_89_21 (I : Nat → Nat → Int32) : Nat → Nat → Int32 := up (zI_X12_init_89_20 I) 105 (fun _ => 0)
def zJ_X12_init_89_16 (J : Nat → Nat → Int64) : Nat → Nat → Int64 := up (zJ_X12_init_89_15 J) 105 (fun _ => 0)
def zR_X12_init_89_31 (r : Nat → Nat → Option Nat) : Nat → Nat → Option Nat := up (zR_X12_init_89_30 r) 105 (fun _ => none)
def zR_X12_init_89_32 (r : Nat → Nat → Option Nat) : Nat → Nat → Option Nat := u2 (zR_X12_init_89_31 r) 89 32 (some 105)
def zI_X12_init_89_22 (I : Nat → Nat → Int32) : Nat → Nat → Int32 := up (zI_X12_init_89_21 I) 106 (fun _ => 0)
def zJ_X12_init_89_17 (J : Nat → Nat → Int64) : Nat → Nat → Int64 := up (zJ_X12_init_89_16 J) 106 (fun _ => 0)
def zR_X12_init_89_33 (r : Nat → Nat → Option Nat) : Nat → Nat → Option Nat := up (zR_X12_init_89_32 r) 106 (fun _ => none)
def zR_X12_init_89_34 (r : Nat → Nat → Option Nat) : Nat → Nat → Option Nat := u2 (zR_X12_init_89_33 r) 89 33 (some 106)
def zI_X12_init_89_23 (I : Nat → Nat → Int32) : Nat → Nat → Int32 := up (zI_X12_init_89_22 I) 107 (fun _ => 0)
def zJ_X12_init_89_18 (J : Nat → Nat → Int64) : Nat → Nat → Int64 := up (zJ_X12_init_89_17 J) 107 (fun _ => 0)
def zR_X12_init_89_35 (r : Nat → Nat → Option Nat) : Nat → Nat → Option Nat := up (zR_X12_init_89_34 r) 107 (fun _ => none)
def zI_X12_init_89_24 (I : Nat → Nat → Int32) : Nat → Nat → Int32 := u2 (zI_X12_init_89_23 I) 107 0 (-1 : Int32)
def zI_X12_init_89_25 (I : Nat → Nat → Int32) : Nat → Nat → Int32 := u2 (zI_X12_init_89_24 I) 107 1 (-1 : Int32)
def zI_X12_init_89_26 (I : Nat → Nat → Int32) : Nat → Nat → Int32 := u2 (zI_X12_init_89_25 I) 107 2 (-1 : Int32)
def zI_X12_init_89_27 (I : Nat → Nat → Int32) : Nat → Nat → Int32 := u2 (zI_X12_init_89_26 I) 107 3 (-1 : Int32)
def zR_X12_init_89_36 (r : Nat → Nat → Option Nat) : Nat → Nat → Option Nat := u2 (zR_X12_init_89_35 r) 89 34 (some 107)
def zI_X12_init_89_28 (I : Nat → Nat → Int32) : Nat → Nat → Int32 := up (zI_X12_init_89_27 I) 108 (fun _ => 0)
def zJ_X12_init_89_19 (J : Nat → Nat → Int64) : Nat → Nat → Int64 := up (zJ_X12_init_89_18 J) 108 (fun _ => 0)
def zR_X12_init_89_37 (r : Nat → Nat → Option Nat) : Nat → Nat → Option Nat := up (zR_X12_init_89_36 r) 108 (fun _ => none)
def zR_X12_init_89_38 (r : Nat → Nat → Option Nat) : Nat → Nat → Option Nat := u2 (zR_X12_init_89_37 r) 89 35 (some 108)
def zI_X12_init_89_29 (I : Nat → Nat → Int32) : Nat → Nat → Int32 := up (zI_X12_init_89_28 I) 109 (fun _ => 0)
def zJ_X12_init_89_20 (J : Nat → Nat → Int64) : Nat → Nat → Int64 := up (zJ_X12_init_89_19 J) 109 (fun _ => 0)
def zR_X12_init_89_39 (r : Nat → Nat → Option Nat) : Nat → Nat → Option Nat := up (zR_X12_init_89_38 r) 109 (fun _ => none)
def zR_X12_init_89_40 (r : Nat → Nat → Option Nat) : Nat → Nat → Option Nat := u2 (zR_X12_init_89_39 r) 89 36 (some 109)
def zI_X12_init_89_30 (I : Nat → Nat → Int32) : Nat → Nat → Int32 := up (zI_X12_init_89_29 I) 110 (fun _ => 0)
def zJ_X12_init_89_21 (J : Nat → Nat → Int64) : Nat → Nat → Int64 := up (zJ_X12_init_89_20 J) 110 (fun _ => 0)
def zR_X12_init_89_41 (r : Nat → Nat → Option Nat) : Nat → Nat → Option Nat := up (zR_X12_init_89_40 r) 110 (fun _ => none)
def zJ_X12_init_89_22 (J : Nat → Nat → Int64) : Nat → Nat → Int64 := u2 (zJ_X12_init_89_21 J) 110 0 (1852138852 : Int64)
def zJ_X12_init_89_23 (J : Nat → Nat → Int64) : Nat → Nat → Int64 := u2 (zJ_X12_init_89_22 J) 110 1 (7499639 : Int64)
def zJ_X12_init_89_24 (J : Nat → Nat → Int64) : Nat → Nat → Int64 := u2 (zJ_X12_init_89_23 J) 110 2 (495874699877 : Int64)
def zJ_X12_init_89_25 (J : Nat → Nat → Int64) : Nat → Nat → Int64 := u2 (zJ_X12_init_89_24 J) 110 3 (1919907699 : Int64)
def zJ_X12_init_89_26 (J : Nat → Nat → Int64) : Nat → Nat → Int64 := u2 (zJ_X12_init_89_25 J) 110 4 (6578553 : Int64)
def zJ_X12_init_89_27 (J : Nat → Nat → Int64) : Nat → Nat → Int64 := u2 (zJ_X12_init_89_26 J) 110 5 (495672455781 : Int64)
def zJ_X12_init_89_28 (J : Nat → Nat → Int64) : Nat → Nat → Int64 := u2 (zJ_X12_init_89_27 J) 110 6 (418430678629 : Int64)
def zJ_X12_init_89_29 (J : Nat → Nat → Int64) : Nat → Nat → Int64 := u2 (zJ_X12_init_89_28 J) 110 7 (1836020325 : Int64)
def zJ_X12_init_89_30 (J : Nat → Nat → Int64) : Nat → Nat → Int64 := u2 (zJ_X12_init_89_29 J) 110 8 (28530 : Int64)
def zJ_X12_init_89_31 (J : Nat → Nat → Int64) : Nat → Nat → Int64 := u2 (zJ_X12_init_89_30 J) 110 9 (6385252 : Int64)
def zJ_X12_init_89_32 (J : Nat → Nat → Int64) : Nat → Nat → Int64 := u2 (zJ_X12_init_89_31 J) 110 10 (7237492 : Int64)
def zR_X12_init_89_42 (r : Nat → Nat → Option Nat) : Nat → Nat → Option Nat := u2 (zR_X12_init_89_41 r) 89 41 (some 110)
def zI_X12_init_89_31 (I : Nat → Nat → Int32) : Nat → Nat → Int32 := up (zI_X12_init_89_30 I) 111 (fun _ => 0)
def zJ_X12_init_89_33 (J : Nat → Nat → Int64) : Nat → Nat → Int64 := up (zJ_X12_init_89_32 J) 111 (fun _ => 0)
def zR_X12_init_89_43 (r : Nat → Nat → Option Nat) : Nat → Nat → Option Nat := up (zR_X12_init_89_42 r) 111 (fun _ => none)
def zR_X12_init_89_44 (r : Nat → Nat → Option Nat) : Nat → Nat → Option Nat := u2 (zR_X12_init_89_43 r) 89 42 (some 111)
def zI_X12_init_89_32 (I : Nat → Nat → Int32) : Nat → Nat → Int32 := up (zI_X12_init_89_31 I) 112 (fun _ => 0)
def zJ_X12_init_89_34 (J : Nat → Nat → Int64) : Nat → Nat → Int64 := up (zJ_X12_init_89_33 J) 112 (fun _ => 0)
def zR_X12_init_89_45 (r : Nat → Nat → Option Nat) : Nat → Nat → Option Nat := up (zR_X12_init_89_44 r) 112 (fun _ => none)
def zR_X12_init_89_46 (r : Nat → Nat → Option Nat) : Nat → Nat → Option Nat := u2 (zR_X12_init_89_45 r) 89 46 (some 112)
def zI_X12_init_89_33 (I : Nat → Nat → Int32) : Nat → Nat → Int32 := up (zI_X12_init_89_32 I) 113 (fun _ => 0)
def zJ_X12_init_89_35 (J : Nat → Nat → Int64) : Nat → Nat → Int64 := up (zJ_X12_init_89_34 J) 113 (fun _ => 0)
def zR_X12_init_89_47 (r : Nat → Nat → Option Nat) : Nat → Nat → Option Nat := up (zR_X12_init_89_46 r) 113 (fun _ => none)
def zR_X12_init_89_48 (r : Nat → Nat → Option Nat) : Nat → Nat → Option Nat := u2 (zR_X12_init_89_47 r) 89 47 (some 113)
def zI_X12_init_89_34 (I : Nat → Nat → Int32) : Nat → Nat → Int32 := up (zI_X12_init_89_33 I) 114 (fun _ => 0)
def zJ_X12_init_89_36 (J : Nat → Nat → Int64) : Nat → Nat → Int64 := up (zJ_X12_init_89_35 J) 114 (fun _ => 0)
def zR_X12_init_89_49 (r : Nat → Nat → Option Nat) : Nat → Nat → Option Nat := up (zR_X12_init_89_48 r) 114 (fun _ => none)
def zR_X12_init_89_50 (r : Nat → Nat → Option Nat) : Nat → Nat → Option Nat := u2 (zR_X12_init_89_49 r) 89 48 (some 114)
def zI_X12_init_89_35 (I : Nat → Nat → Int32) : Nat → Nat → Int32 := u2 I 98 4 (100004 : Int32)
def zI_X12_init_89_36 (I : Nat → Nat → Int32) : Nat → Nat → Int32 := u2 (zI_X12_init_89_35 I) 98 5 (18 : Int32)
def zI_X12_init_89_37 (I : Nat → Nat → Int32) : Nat → Nat → Int32 := u2 (zI_X12_init_89_36 I) 99 1 (3 : Int32)
def zI_X12_init_89_38 (I : Nat → Nat → Int32) : Nat → Nat → Int32 := u2 (zI_X12_init_89_37 I) 99 2 (6 : Int32)
theorem k_X12_init_89 {G : Gd} {d : Nat} {K : Ah → Option Value → Prop} {I : Nat → Nat → Int32} {J : Nat → Nat → Int64} {r : Nat → Nat → Option Nat} {N : Nat} {o : Nat → Nat → Int32} (hs : Sh ((zR_X12_init_89_50 r), kdn 83, 83)) (hf : f_X12_first N ((zR_X12_init_89_50 r), kdn 83, 83) (zI_X12_init_89_34 I) (zJ_X12_init_89_36 J) (0 : Int32) (100003 : Int32) (1 : Int32) (16 : Int32) (1 : Int32) = some o) (hK : K ((zI_X12_init_89_38 o), (zJ_X12_init_89_36 J), ((zR_X12_init_89_50 r), kdn 83, 83)) none) : AM G (d + 1) 25 2355 mX12_init [.ref 89] (I, J, (r, kdn 58, 58)) K := by
  refine AM.intro okX12_init.2.2.2.1 (Nat.le_of_ble_eq_true rfl) [some (.ref 89)] rfl ?_
  refine AW.aload_n dX12_init_0 rfl ?_
  refine AW.obj obX12_1 ob_i ob_c dX12_init_1 (Nat.le_of_ble_eq_true rfl) ?_
  refine AW.aload_n dX12_init_4 rfl ?_
  refine AW.bipush (v := (8 : Int32)) dX12_init_5 (by decide) ?_
  refine CW.newPrim (c := 24) (n := 2347) (t := 1) (N := 8) rfl (by decide) (by decide) ac_int (by decide) (by decide) (by decide) rfl rfl dX12_init_7 ?_
  show AW G mX12_init (d + 1) 24 2347 K 9 [some (.ref 89)] [.ref 90, .ref 89] ((zI_X12_init_89_1 I), (zJ_X12_init_89_1 J), ((zR_X12_init_89_1 r), kdn 59, 59))
  refine TW.putR (o := some 90) fX12_7_12 (kdn_at (n := 59) (a := 89) (k := (0, 12)) (by decide) rfl) rfl (Or.inr ⟨rfl, fX12_7_12o⟩) dX12_init_9 ?_
  show AW G mX12_init (d + 1) 24 2347 K 12 [some (.ref 89)] [] ((zI_X12_init_89_1 I), (zJ_X12_init_89_1 J), ((zR_X12_init_89_2 r), kdn 59, 59))
  refine AW.aload_n dX12_init_12 rfl ?_
  refine AW.bipush (v := (8 : Int32)) dX12_init_13 (by decide) ?_
  refine CW.newPrim (c := 23) (n := 2339) (t := 1) (N := 8) rfl (by decide) (by decide) ac_int (by decide) (by decide) (by decide) rfl rfl dX12_init_15 ?_
  show AW G mX12_init (d + 1) 23 2339 K 17 [some (.ref 89)] [.ref 91, .ref 89] ((zI_X12_init_89_2 I), (zJ_X12_init_89_2 J), ((zR_X12_init_89_3 r), kdn 60, 60))
  refine TW.putR (o := some 91) fX12_13_12 (kdn_at (n := 60) (a := 89) (k := (0, 12)) (by decide) rfl) rfl (Or.inr ⟨rfl, fX12_13_12o⟩) dX12_init_17 ?_
  show AW G mX12_init (d + 1) 23 2339 K 20 [some (.ref 89)] [] ((zI_X12_init_89_2 I), (zJ_X12_init_89_2 J), ((zR_X12_init_89_4 r), kdn 60, 60))
  refine AW.aload_n dX12_init_20 rfl ?_
  refine AW.bipush (v := (6 : Int32)) dX12_init_21 (by decide) ?_
  refine TW.putI fX12_16_12 (kdn_at (n := 60) (a := 89) (k := (0, 12)) (by decide) rfl) (Or.inl rfl) dX12_init_23 ?_
  show AW G mX12_init (d + 1) 23 2339 K 26 [some (.ref 89)] [] ((zI_X12_init_89_3 I), (zJ_X12_init_89_2 J), ((zR_X12_init_89_4 r), kdn 60, 60))
  refine AW.aload_n dX12_init_26 rfl ?_
  refine AW.bipush (v := (60 : Int32)) dX12_init_27 (by decide) ?_
  refine TW.putI fX12_20_12 (kdn_at (n := 60) (a := 89) (k := (0, 12)) (by decide) rfl) (Or.inl rfl) dX12_init_29 ?_
  show AW G mX12_init (d + 1) 23 2339 K 32 [some (.ref 89)] [] ((zI_X12_init_89_4 I), (zJ_X12_init_89_2 J), ((zR_X12_init_89_4 r), kdn 60, 60))
  refine AW.aload_n dX12_init_32 rfl ?_
  refine AW.bipush (v := (12 : Int32)) dX12_init_33 (by decide) ?_
  refine TW.putI fX12_23_12 (kdn_at (n := 60) (a := 89) (k := (0, 12)) (by decide) rfl) (Or.inl rfl) dX12_init_35 ?_
  show AW G mX12_init (d + 1) 23 2339 K 38 [some (.ref 89)] [] ((zI_X12_init_89_5 I), (zJ_X12_init_89_2 J), ((zR_X12_init_89_4 r), kdn 60, 60))
  refine AW.aload_n dX12_init_38 rfl ?_
  refine AW.bipush (v := (100 : Int32)) dX12_init_39 (by decide) ?_
  refine TW.putI fX12_26_12 (kdn_at (n := 60) (a := 89) (k := (0, 12)) (by decide) rfl) (Or.inl rfl) dX12_init_41 ?_
  show AW G mX12_init (d + 1) 23 2339 K 44 [some (.ref 89)] [] ((zI_X12_init_89_6 I), (zJ_X12_init_89_2 J), ((zR_X12_init_89_4 r), kdn 60, 60))
  refine AW.aload_n dX12_init_44 rfl ?_
  refine AW.bipush (v := (12 : Int32)) dX12_init_45 (by decide) ?_
  refine CW.newPrim (c := 22) (n := 2327) (t := 1) (N := 12) rfl (by decide) (by decide) ac_int (by decide) (by decide) (by decide) rfl rfl dX12_init_47 ?_
  show AW G mX12_init (d + 1) 22 2327 K 49 [some (.ref 89)] [.ref 92, .ref 89] ((zI_X12_init_89_7 I), (zJ_X12_init_89_3 J), ((zR_X12_init_89_5 r), kdn 61, 61))
  refine TW.putR (o := some 92) fX12_29_12 (kdn_at (n := 61) (a := 89) (k := (0, 12)) (by decide) rfl) rfl (Or.inr ⟨rfl, fX12_29_12o⟩) dX12_init_49 ?_
  show AW G mX12_init (d + 1) 22 2327 K 52 [some (.ref 89)] [] ((zI_X12_init_89_7 I), (zJ_X12_init_89_3 J), ((zR_X12_init_89_6 r), kdn 61, 61))
  refine AW.aload_n dX12_init_52 rfl ?_
  refine AW.bipush (v := (12 : Int32)) dX12_init_53 (by decide) ?_
  refine CW.newPrim (c := 21) (n := 2315) (t := 1) (N := 12) rfl (by decide) (by decide) ac_int (by decide) (by decide) (by decide) rfl rfl dX12_init_55 ?_
  show AW G mX12_init (d + 1) 21 2315 K 57 [some (.ref 89)] [.ref 93, .ref 89] ((zI_X12_init_89_8 I), (zJ_X12_init_89_4 J), ((zR_X12_init_89_7 r), kdn 62, 62))
  refine TW.putR (o := some 93) fX12_32_12 (kdn_at (n := 62) (a := 89) (k := (0, 12)) (by decide) rfl) rfl (Or.inr ⟨rfl, fX12_32_12o⟩) dX12_init_57 ?_
  show AW G mX12_init (d + 1) 21 2315 K 60 [some (.ref 89)] [] ((zI_X12_init_89_8 I), (zJ_X12_init_89_4 J), ((zR_X12_init_89_8 r), kdn 62, 62))
  refine AW.aload_n dX12_init_60 rfl ?_
  refine AW.bipush (v := (8 : Int32)) dX12_init_61 (by decide) ?_
  refine CW.newPrim (c := 20) (n := 2307) (t := 1) (N := 8) rfl (by decide) (by decide) ac_int (by decide) (by decide) (by decide) rfl rfl dX12_init_63 ?_
  show AW G mX12_init (d + 1) 20 2307 K 65 [some (.ref 89)] [.ref 94, .ref 89] ((zI_X12_init_89_9 I), (zJ_X12_init_89_5 J), ((zR_X12_init_89_9 r), kdn 63, 63))
  refine TW.putR (o := some 94) fX12_35_12 (kdn_at (n := 63) (a := 89) (k := (0, 12)) (by decide) rfl) rfl (Or.inr ⟨rfl, fX12_35_12o⟩) dX12_init_65 ?_
  show AW G mX12_init (d + 1) 20 2307 K 68 [some (.ref 89)] [] ((zI_X12_init_89_9 I), (zJ_X12_init_89_5 J), ((zR_X12_init_89_10 r), kdn 63, 63))
  refine AW.aload_n dX12_init_68 rfl ?_
  refine AW.bipush (v := (8 : Int32)) dX12_init_69 (by decide) ?_
  refine CW.newPrim (c := 19) (n := 2299) (t := 1) (N := 8) rfl (by decide) (by decide) ac_int (by decide) (by decide) (by decide) rfl rfl dX12_init_71 ?_
  show AW G mX12_init (d + 1) 19 2299 K 73 [some (.ref 89)] [.ref 95, .ref 89] ((zI_X12_init_89_10 I), (zJ_X12_init_89_6 J), ((zR_X12_init_89_11 r), kdn 64, 64))
  refine TW.putR (o := some 95) fX12_38_12 (kdn_at (n := 64) (a := 89) (k := (0, 12)) (by decide) rfl) rfl (Or.inr ⟨rfl, fX12_38_12o⟩) dX12_init_73 ?_
  show AW G mX12_init (d + 1) 19 2299 K 76 [some (.ref 89)] [] ((zI_X12_init_89_10 I), (zJ_X12_init_89_6 J), ((zR_X12_init_89_12 r), kdn 64, 64))
  refine AW.aload_n dX12_init_76 rfl ?_
  refine AW.bipush (v := (64 : Int32)) dX12_init_77 (by decide) ?_
  refine CW.newPrim (c := 18) (n := 2235) (t := 1) (N := 64) rfl (by decide) (by decide) ac_int (by decide) (by decide) (by decide) rfl rfl dX12_init_79 ?_
  show AW G mX12_init (d + 1) 18 2235 K 81 [some (.ref 89)] [.ref 96, .ref 89] ((zI_X12_init_89_11 I), (zJ_X12_init_89_7 J), ((zR_X12_init_89_13 r), kdn 65, 65))
  refine TW.putR (o := some 96) fX12_41_12 (kdn_at (n := 65) (a := 89) (k := (0, 12)) (by decide) rfl) rfl (Or.inr ⟨rfl, fX12_41_12o⟩) dX12_init_81 ?_
  show AW G mX12_init (d + 1) 18 2235 K 84 [some (.ref 89)] [] ((zI_X12_init_89_11 I), (zJ_X12_init_89_7 J), ((zR_X12_init_89_14 r), kdn 65, 65))
  refine AW.aload_n dX12_init_84 rfl ?_
  refine AW.sipush (v := (160 : Int32)) dX12_init_85 (by decide) ?_
  refine CW.newPrim (c := 17) (n := 2075) (t := 1) (N := 160) rfl (by decide) (by decide) ac_int (by decide) (by decide) (by decide) rfl rfl dX12_init_88 ?_
  show AW G mX12_init (d + 1) 17 2075 K 90 [some (.ref 89)] [.ref 97, .ref 89] ((zI_X12_init_89_12 I), (zJ_X12_init_89_8 J), ((zR_X12_init_89_15 r), kdn 66, 66))
  refine TW.putR (o := some 97) fX12_44_12 (kdn_at (n := 66) (a := 89) (k := (0, 12)) (by decide) rfl) rfl (Or.inr ⟨rfl, fX12_44_12o⟩) dX12_init_90 ?_
  show AW G mX12_init (d + 1) 17 2075 K 93 [some (.ref 89)] [] ((zI_X12_init_89_12 I), (zJ_X12_init_89_8 J), ((zR_X12_init_89_16 r), kdn 66, 66))
  refine AW.aload_n dX12_init_93 rfl ?_
  refine AW.sipush (v := (1200 : Int32)) dX12_init_94 (by decide) ?_
  refine CW.newPrim (c := 16) (n := 875) (t := 1) (N := 1200) rfl (by decide) (by decide) ac_int (by decide) (by decide) (by decide) rfl rfl dX12_init_97 ?_
  show AW G mX12_init (d + 1) 16 875 K 99 [some (.ref 89)] [.ref 98, .ref 89] ((zI_X12_init_89_13 I), (zJ_X12_init_89_9 J), ((zR_X12_init_89_17 r), kdn 67, 67))
  refine TW.putR (o := some 98) fX12_47_12 (kdn_at (n := 67) (a := 89) (k := (0, 12)) (by decide) rfl) rfl (Or.inr ⟨rfl, fX12_47_12o⟩) dX12_init_99 ?_
  show AW G mX12_init (d + 1) 16 875 K 102 [some (.ref 89)] [] ((zI_X12_init_89_13 I), (zJ_X12_init_89_9 J), ((zR_X12_init_89_18 r), kdn 67, 67))
  refine AW.aload_n dX12_init_102 rfl ?_
  refine AW.bipush (v := (24 : Int32)) dX12_init_103 (by decide) ?_
  refine CW.newPrim (c := 15) (n := 851) (t := 1) (N := 24) rfl (by decide) (by decide) ac_int (by decide) (by decide) (by decide) rfl rfl dX12_init_105 ?_
  show AW G mX12_init (d + 1) 15 851 K 107 [some (.ref 89)] [.ref 99, .ref 89] ((zI_X12_init_89_14 I), (zJ_X12_init_89_10 J), ((zR_X12_init_89_19 r), kdn 68, 68))
  refine TW.putR (o := some 99) fX12_50_12 (kdn_at (n := 68) (a := 89) (k := (0, 12)) (by decide) rfl) rfl (Or.inr ⟨rfl, fX12_50_12o⟩) dX12_init_107 ?_
  show AW G mX12_init (d + 1) 15 851 K 110 [some (.ref 89)] [] ((zI_X12_init_89_14 I), (zJ_X12_init_89_10 J), ((zR_X12_init_89_20 r), kdn 68, 68))
  refine AW.aload_n dX12_init_110 rfl ?_
  refine AW.iconst (v := (1 : Int32)) dX12_init_111 (by decide) ?_
  refine TW.putI fX12_53_12 (kdn_at (n := 68) (a := 89) (k := (0, 12)) (by decide) rfl) (Or.inl rfl) dX12_init_112 ?_
  show AW G mX12_init (d + 1) 15 851 K 115 [some (.ref 89)] [] ((zI_X12_init_89_15 I), (zJ_X12_init_89_10 J), ((zR_X12_init_89_20 r), kdn 68, 68))
  refine AW.aload_n dX12_init_115 rfl ?_
  refine AW.bipush (v := (104 : Int32)) dX12_init_116 (by decide) ?_
  refine CW.newPrim (c := 14) (n := 747) (t := 1) (N := 104) rfl (by decide) (by decide) ac_int (by decide) (by decide) (by decide) rfl rfl dX12_init_118 ?_
  show AW G mX12_init (d + 1) 14 747 K 120 [some (.ref 89)] [.ref 100, .ref 89] ((zI_X12_init_89_16 I), (zJ_X12_init_89_11 J), ((zR_X12_init_89_21 r), kdn 69, 69))
  refine TW.putR (o := some 100) fX12_56_12 (kdn_at (n := 69) (a := 89) (k := (0, 12)) (by decide) rfl) rfl (Or.inr ⟨rfl, fX12_56_12o⟩) dX12_init_120 ?_
  show AW G mX12_init (d + 1) 14 747 K 123 [some (.ref 89)] [] ((zI_X12_init_89_16 I), (zJ_X12_init_89_11 J), ((zR_X12_init_89_22 r), kdn 69, 69))
  refine AW.aload_n dX12_init_123 rfl ?_
  refine AW.bipush (v := (96 : Int32)) dX12_init_124 (by decide) ?_
  refine CW.newPrim (c := 13) (n := 651) (t := 1) (N := 96) rfl (by decide) (by decide) ac_int (by decide) (by decide) (by decide) rfl rfl dX12_init_126 ?_
  show AW G mX12_init (d + 1) 13 651 K 128 [some (.ref 89)] [.ref 101, .ref 89] ((zI_X12_init_89_17 I), (zJ_X12_init_89_12 J), ((zR_X12_init_89_23 r), kdn 70, 70))
  refine TW.putR (o := some 101) fX12_59_12 (kdn_at (n := 70) (a := 89) (k := (0, 12)) (by decide) rfl) rfl (Or.inr ⟨rfl, fX12_59_12o⟩) dX12_init_128 ?_
  show AW G mX12_init (d + 1) 13 651 K 131 [some (.ref 89)] [] ((zI_X12_init_89_17 I), (zJ_X12_init_89_12 J), ((zR_X12_init_89_24 r), kdn 70, 70))
  refine AW.aload_n dX12_init_131 rfl ?_
  refine AW.bipush (v := (13 : Int32)) dX12_init_132 (by decide) ?_
  refine CW.newPrim (c := 12) (n := 638) (t := 1) (N := 13) rfl (by decide) (by decide) ac_int (by decide) (by decide) (by decide) rfl rfl dX12_init_134 ?_
  show AW G mX12_init (d + 1) 12 638 K 136 [some (.ref 89)] [.ref 102, .ref 89] ((zI_X12_init_89_18 I), (zJ_X12_init_89_13 J), ((zR_X12_init_89_25 r), kdn 71, 71))
  refine TW.putR (o := some 102) fX12_62_12 (kdn_at (n := 71) (a := 89) (k := (0, 12)) (by decide) rfl) rfl (Or.inr ⟨rfl, fX12_62_12o⟩) dX12_init_136 ?_
  show AW G mX12_init (d + 1) 12 638 K 139 [some (.ref 89)] [] ((zI_X12_init_89_18 I), (zJ_X12_init_89_13 J), ((zR_X12_init_89_26 r), kdn 71, 71))
  refine AW.aload_n dX12_init_139 rfl ?_
  refine AW.bipush (v := (13 : Int32)) dX12_init_140 (by decide) ?_
  refine CW.newPrim (c := 11) (n := 625) (t := 1) (N := 13) rfl (by decide) (by decide) ac_int (by decide) (by decide) (by decide) rfl rfl dX12_init_142 ?_
  show AW G mX12_init (d + 1) 11 625 K 144 [some (.ref 89)] [.ref 103, .ref 89] ((zI_X12_init_89_19 I), (zJ_X12_init_89_14 J), ((zR_X12_init_89_27 r), kdn 72, 72))
  refine TW.putR (o := some 103) fX12_65_12 (kdn_at (n := 72) (a := 89) (k := (0, 12)) (by decide) rfl) rfl (Or.inr ⟨rfl, fX12_65_12o⟩) dX12_init_144 ?_
  show AW G mX12_init (d + 1) 11 625 K 147 [some (.ref 89)] [] ((zI_X12_init_89_19 I), (zJ_X12_init_89_14 J), ((zR_X12_init_89_28 r), kdn 72, 72))
  refine AW.aload_n dX12_init_147 rfl ?_
  refine AW.bipush (v := (8 : Int32)) dX12_init_148 (by decide) ?_
  refine CW.newPrim (c := 10) (n := 617) (t := 1) (N := 8) rfl (by decide) (by decide) ac_int (by decide) (by decide) (by decide) rfl rfl dX12_init_150 ?_
  show AW G mX12_init (d + 1) 10 617 K 152 [some (.ref 89)] [.ref 104, .ref 89] ((zI_X12_init_89_20 I), (zJ_X12_init_89_15 J), ((zR_X12_init_89_29 r), kdn 73, 73))
  refine TW.putR (o := some 104) fX12_68_12 (kdn_at (n := 73) (a := 89) (k := (0, 12)) (by decide) rfl) rfl (Or.inr ⟨rfl, fX12_68_12o⟩) dX12_init_152 ?_
  show AW G mX12_init (d + 1) 10 617 K 155 [some (.ref 89)] [] ((zI_X12_init_89_20 I), (zJ_X12_init_89_15 J), ((zR_X12_init_89_30 r), kdn 73, 73))
  refine AW.aload_n dX12_init_155 rfl ?_
  refine AW.bipush (v := (12 : Int32)) dX12_init_156 (by decide) ?_
  refine CW.newPrim (c := 9) (n := 605) (t := 1) (N := 12) rfl (by decide) (by decide) ac_int (by decide) (by decide) (by decide) rfl rfl dX12_init_158 ?_
  show AW G mX12_init (d + 1) 9 605 K 160 [some (.ref 89)] [.ref 105, .ref 89] ((zI_X12_init_89_21 I), (zJ_X12_init_89_16 J), ((zR_X12_init_89_31 r), kdn 74, 74))
  refine TW.putR (o := some 105) fX12_71_12 (kdn_at (n := 74) (a := 89) (k := (0, 12)) (by decide) rfl) rfl (Or.inr ⟨rfl, fX12_71_12o⟩) dX12_init_160 ?_
  show AW G mX12_init (d + 1) 9 605 K 163 [some (.ref 89)] [] ((zI_X12_init_89_21 I), (zJ_X12_init_89_16 J), ((zR_X12_init_89_32 r), kdn 74, 74))
  refine AW.aload_n dX12_init_163 rfl ?_
  refine AW.bipush (v := (12 : Int32)) dX12_init_164 (by decide) ?_
  refine CW.newPrim (c := 8) (n := 593) (t := 1) (N := 12) rfl (by decide) (by decide) ac_int (by decide) (by decide) (by decide) rfl rfl dX12_init_166 ?_
  show AW G mX12_init (d + 1) 8 593 K 168 [some (.ref 89)] [.ref 106, .ref 89] ((zI_X12_init_89_22 I), (zJ_X12_init_89_17 J), ((zR_X12_init_89_33 r), kdn 75, 75))
  refine TW.putR (o := some 106) fX12_74_12 (kdn_at (n := 75) (a := 89) (k := (0, 12)) (by decide) rfl) rfl (Or.inr ⟨rfl, fX12_74_12o⟩) dX12_init_168 ?_
  show AW G mX12_init (d + 1) 8 593 K 171 [some (.ref 89)] [] ((zI_X12_init_89_22 I), (zJ_X12_init_89_17 J), ((zR_X12_init_89_34 r), kdn 75, 75))
  refine AW.aload_n dX12_init_171 rfl ?_
  refine AW.iconst (v := (4 : Int32)) dX12_init_172 (by decide) ?_
  refine CW.newPrim (c := 7) (n := 589) (t := 1) (N := 4) rfl (by decide) (by decide) ac_int (by decide) (by decide) (by decide) rfl rfl dX12_init_173 ?_
  show AW G mX12_init (d + 1) 7 589 K 175 [some (.ref 89)] [.ref 107, .ref 89] ((zI_X12_init_89_23 I), (zJ_X12_init_89_18 J), ((zR_X12_init_89_35 r), kdn 76, 76))
  refine AW.dup dX12_init_175 rfl ?_
  refine AW.iconst (v := (0 : Int32)) dX12_init_176 (by decide) ?_
  refine AW.iconst (v := (-1 : Int32)) dX12_init_177 (by decide) ?_
  refine TW.iast (kdn_at (n := 76) (a := 107) (k := (1, 4)) (by decide) rfl) (show ¬ ((0 : Int32) < 0 ∨ 4 ≤ (0 : Int32).toNatClampNeg) by decide) dX12_init_178 ?_
  show AW G mX12_init (d + 1) 7 589 K 179 [some (.ref 89)] [.ref 107, .ref 89] ((zI_X12_init_89_24 I), (zJ_X12_init_89_18 J), ((zR_X12_init_89_35 r), kdn 76, 76))
  refine AW.dup dX12_init_179 rfl ?_
  refine AW.iconst (v := (1 : Int32)) dX12_init_180 (by decide) ?_
  refine AW.iconst (v := (-1 : Int32)) dX12_init_181 (by decide) ?_
  refine TW.iast (kdn_at (n := 76) (a := 107) (k := (1, 4)) (by decide) rfl) (show ¬ ((1 : Int32) < 0 ∨ 4 ≤ (1 : Int32).toNatClampNeg) by decide) dX12_init_182 ?_
  show AW G mX12_init (d + 1) 7 589 K 183 [some (.ref 89)] [.ref 107, .ref 89] ((zI_X12_init_89_25 I), (zJ_X12_init_89_18 J), ((zR_X12_init_89_35 r), kdn 76, 76))
  refine AW.dup dX12_init_183 rfl ?_
  refine AW.iconst (v := (2 : Int32)) dX12_init_184 (by decide) ?_
  refine AW.iconst (v := (-1 : Int32)) dX12_init_185 (by decide) ?_
  refine TW.iast (kdn_at (n := 76) (a := 107) (k := (1, 4)) (by decide) rfl) (show ¬ ((2 : Int32) < 0 ∨ 4 ≤ (2 : Int32).toNatClampNeg) by decide) dX12_init_186 ?_
  show AW G mX12_init (d + 1) 7 589 K 187 [some (.ref 89)] [.ref 107, .ref 89] ((zI_X12_init_89_26 I), (zJ_X12_init_89_18 J), ((zR_X12_init_89_35 r), kdn 76, 76))
  refine AW.dup dX12_init_187 rfl ?_
  refine AW.iconst (v := (3 : Int32)) dX12_init_188 (by decide) ?_
  refine AW.iconst (v := (-1 : Int32)) dX12_init_189 (by decide) ?_
  refine TW.iast (kdn_at (n := 76) (a := 107) (k := (1, 4)) (by decide) rfl) (show ¬ ((3 : Int32) < 0 ∨ 4 ≤ (3 : Int32).toNatClampNeg) by decide) dX12_init_190 ?_
  show AW G mX12_init (d + 1) 7 589 K 191 [some (.ref 89)] [.ref 107, .ref 89] ((zI_X12_init_89_27 I), (zJ_X12_init_89_18 J), ((zR_X12_init_89_35 r), kdn 76, 76))
  refine TW.putR (o := some 107) fX12_77_12 (kdn_at (n := 76) (a := 89) (k := (0, 12)) (by decide) rfl) rfl (Or.inr ⟨rfl, fX12_77_12o⟩) dX12_init_191 ?_
  show AW G mX12_init (d + 1) 7 589 K 194 [some (.ref 89)] [] ((zI_X12_init_89_27 I), (zJ_X12_init_89_18 J), ((zR_X12_init_89_36 r), kdn 76, 76))
  refine AW.aload_n dX12_init_194 rfl ?_
  refine AW.iconst (v := (4 : Int32)) dX12_init_195 (by decide) ?_
  refine CW.newPrim (c := 6) (n := 585) (t := 1) (N := 4) rfl (by decide) (by decide) ac_int (by decide) (by decide) (by decide) rfl rfl dX12_init_196 ?_
  show AW G mX12_init (d + 1) 6 585 K 198 [some (.ref 89)] [.ref 108, .ref 89] ((zI_X12_init_89_28 I), (zJ_X12_init_89_19 J), ((zR_X12_init_89_37 r), kdn 77, 77))
  refine TW.putR (o := some 108) fX12_80_12 (kdn_at (n := 77) (a := 89) (k := (0, 12)) (by decide) rfl) rfl (Or.inr ⟨rfl, fX12_80_12o⟩) dX12_init_198 ?_
  show AW G mX12_init (d + 1) 6 585 K 201 [some (.ref 89)] [] ((zI_X12_init_89_28 I), (zJ_X12_init_89_19 J), ((zR_X12_init_89_38 r), kdn 77, 77))
  refine AW.aload_n dX12_init_201 rfl ?_
  refine AW.sipush (v := (160 : Int32)) dX12_init_202 (by decide) ?_
  refine CW.newPrim (c := 5) (n := 425) (t := 1) (N := 160) rfl (by decide) (by decide) ac_int (by decide) (by decide) (by decide) rfl rfl dX12_init_205 ?_
  show AW G mX12_init (d + 1) 5 425 K 207 [some (.ref 89)] [.ref 109, .ref 89] ((zI_X12_init_89_29 I), (zJ_X12_init_89_20 J), ((zR_X12_init_89_39 r), kdn 78, 78))
  refine TW.putR (o := some 109) fX12_83_12 (kdn_at (n := 78) (a := 89) (k := (0, 12)) (by decide) rfl) rfl (Or.inr ⟨rfl, fX12_83_12o⟩) dX12_init_207 ?_
  show AW G mX12_init (d + 1) 5 425 K 210 [some (.ref 89)] [] ((zI_X12_init_89_29 I), (zJ_X12_init_89_20 J), ((zR_X12_init_89_40 r), kdn 78, 78))
  refine AW.aload_n dX12_init_210 rfl ?_
  refine AW.bipush (v := (11 : Int32)) dX12_init_211 (by decide) ?_
  refine CW.newPrim (c := 4) (n := 414) (t := 2) (N := 11) rfl (by decide) (by decide) ac_long (by decide) (by decide) (by decide) rfl rfl dX12_init_213 ?_
  show AW G mX12_init (d + 1) 4 414 K 215 [some (.ref 89)] [.ref 110, .ref 89] ((zI_X12_init_89_30 I), (zJ_X12_init_89_21 J), ((zR_X12_init_89_41 r), kdn 79, 79))
  refine AW.dup dX12_init_215 rfl ?_
  refine AW.iconst (v := (0 : Int32)) dX12_init_216 (by decide) ?_
  refine AW.ldc2 dX12_init_217 kcX12_86 ?_
  refine TW.last (kdn_at (n := 79) (a := 110) (k := (2, 11)) (by decide) rfl) (show ¬ ((0 : Int32) < 0 ∨ 11 ≤ (0 : Int32).toNatClampNeg) by decide) dX12_init_220 ?_
  show AW G mX12_init (d + 1) 4 414 K 221 [some (.ref 89)] [.ref 110, .ref 89] ((zI_X12_init_89_30 I), (zJ_X12_init_89_22 J), ((zR_X12_init_89_41 r), kdn 79, 79))
  refine AW.dup dX12_init_221 rfl ?_
  refine AW.iconst (v := (1 : Int32)) dX12_init_222 (by decide) ?_
  refine AW.ldc2 dX12_init_223 kcX12_88 ?_
  refine TW.last (kdn_at (n := 79) (a := 110) (k := (2, 11)) (by decide) rfl) (show ¬ ((1 : Int32) < 0 ∨ 11 ≤ (1 : Int32).toNatClampNeg) by decide) dX12_init_226 ?_
  show AW G mX12_init (d + 1) 4 414 K 227 [some (.ref 89)] [.ref 110, .ref 89] ((zI_X12_init_89_30 I), (zJ_X12_init_89_23 J), ((zR_X12_init_89_41 r), kdn 79, 79))
  refine AW.dup dX12_init_227 rfl ?_
  refine AW.iconst (v := (2 : Int32)) dX12_init_228 (by decide) ?_
  refine AW.ldc2 dX12_init_229 kcX12_90 ?_
  refine TW.last (kdn_at (n := 79) (a := 110) (k := (2, 11)) (by decide) rfl) (show ¬ ((2 : Int32) < 0 ∨ 11 ≤ (2 : Int32).toNatClampNeg) by decide) dX12_init_232 ?_
  show AW G mX12_init (d + 1) 4 414 K 233 [some (.ref 89)] [.ref 110, .ref 89] ((zI_X12_init_89_30 I), (zJ_X12_init_89_24 J), ((zR_X12_init_89_41 r), kdn 79, 79))
  refine AW.dup dX12_init_233 rfl ?_
  refine AW.iconst (v := (3 : Int32)) dX12_init_234 (by decide) ?_
  refine AW.ldc2 dX12_init_235 kcX12_92 ?_
  refine TW.last (kdn_at (n := 79) (a := 110) (k := (2, 11)) (by decide) rfl) (show ¬ ((3 : Int32) < 0 ∨ 11 ≤ (3 : Int32).toNatClampNeg) by decide) dX12_init_238 ?_
  show AW G mX12_init (d + 1) 4 414 K 239 [some (.ref 89)] [.ref 110, .ref 89] ((zI_X12_init_89_30 I), (zJ_X12_init_89_25 J), ((zR_X12_init_89_41 r), kdn 79, 79))
  refine AW.dup dX12_init_239 rfl ?_
  refine AW.iconst (v := (4 : Int32)) dX12_init_240 (by decide) ?_
  refine AW.ldc2 dX12_init_241 kcX12_94 ?_
  refine TW.last (kdn_at (n := 79) (a := 110) (k := (2, 11)) (by decide) rfl) (show ¬ ((4 : Int32) < 0 ∨ 11 ≤ (4 : Int32).toNatClampNeg) by decide) dX12_init_244 ?_
  show AW G mX12_init (d + 1) 4 414 K 245 [some (.ref 89)] [.ref 110, .ref 89] ((zI_X12_init_89_30 I), (zJ_X12_init_89_26 J), ((zR_X12_init_89_41 r), kdn 79, 79))
  refine AW.dup dX12_init_245 rfl ?_
  refine AW.iconst (v := (5 : Int32)) dX12_init_246 (by decide) ?_
  refine AW.ldc2 dX12_init_247 kcX12_96 ?_
  refine TW.last (kdn_at (n := 79) (a := 110) (k := (2, 11)) (by decide) rfl) (show ¬ ((5 : Int32) < 0 ∨ 11 ≤ (5 : Int32).toNatClampNeg) by decide) dX12_init_250 ?_
  show AW G mX12_init (d + 1) 4 414 K 251 [some (.ref 89)] [.ref 110, .ref 89] ((zI_X12_init_89_30 I), (zJ_X12_init_89_27 J), ((zR_X12_init_89_41 r), kdn 79, 79))
  refine AW.dup dX12_init_251 rfl ?_
  refine AW.bipush (v := (6 : Int32)) dX12_init_252 (by decide) ?_
  refine AW.ldc2 dX12_init_254 kcX12_98 ?_
  refine TW.last (kdn_at (n := 79) (a := 110) (k := (2, 11)) (by decide) rfl) (show ¬ ((6 : Int32) < 0 ∨ 11 ≤ (6 : Int32).toNatClampNeg) by decide) dX12_init_257 ?_
  show AW G mX12_init (d + 1) 4 414 K 258 [some (.ref 89)] [.ref 110, .ref 89] ((zI_X12_init_89_30 I), (zJ_X12_init_89_28 J), ((zR_X12_init_89_41 r), kdn 79, 79))
  refine AW.dup dX12_init_258 rfl ?_
  refine AW.bipush (v := (7 : Int32)) dX12_init_259 (by decide) ?_
  refine AW.ldc2 dX12_init_261 kcX12_100 ?_
  refine TW.last (kdn_at (n := 79) (a := 110) (k := (2, 11)) (by decide) rfl) (show ¬ ((7 : Int32) < 0 ∨ 11 ≤ (7 : Int32).toNatClampNeg) by decide) dX12_init_264 ?_
  show AW G mX12_init (d + 1) 4 414 K 265 [some (.ref 89)] [.ref 110, .ref 89] ((zI_X12_init_89_30 I), (zJ_X12_init_89_29 J), ((zR_X12_init_89_41 r), kdn 79, 79))
  refine AW.dup dX12_init_265 rfl ?_
  refine AW.bipush (v := (8 : Int32)) dX12_init_266 (by decide) ?_
  refine AW.ldc2 dX12_init_268 kcX12_102 ?_
  refine TW.last (kdn_at (n := 79) (a := 110) (k := (2, 11)) (by decide) rfl) (show ¬ ((8 : Int32) < 0 ∨ 11 ≤ (8 : Int32).toNatClampNeg) by decide) dX12_init_271 ?_
  show AW G mX12_init (d + 1) 4 414 K 272 [some (.ref 89)] [.ref 110, .ref 89] ((zI_X12_init_89_30 I), (zJ_X12_init_89_30 J), ((zR_X12_init_89_41 r), kdn 79, 79))
  refine AW.dup dX12_init_272 rfl ?_
  refine AW.bipush (v := (9 : Int32)) dX12_init_273 (by decide) ?_
  refine AW.ldc2 dX12_init_275 kcX12_104 ?_
  refine TW.last (kdn_at (n := 79) (a := 110) (k := (2, 11)) (by decide) rfl) (show ¬ ((9 : Int32) < 0 ∨ 11 ≤ (9 : Int32).toNatClampNeg) by decide) dX12_init_278 ?_
  show AW G mX12_init (d + 1) 4 414 K 279 [some (.ref 89)] [.ref 110, .ref 89] ((zI_X12_init_89_30 I), (zJ_X12_init_89_31 J), ((zR_X12_init_89_41 r), kdn 79, 79))
  refine AW.dup dX12_init_279 rfl ?_
  refine AW.bipush (v := (10 : Int32)) dX12_init_280 (by decide) ?_
  refine AW.ldc2 dX12_init_282 kcX12_106 ?_
  refine TW.last (kdn_at (n := 79) (a := 110) (k := (2, 11)) (by decide) rfl) (show ¬ ((10 : Int32) < 0 ∨ 11 ≤ (10 : Int32).toNatClampNeg) by decide) dX12_init_285 ?_
  show AW G mX12_init (d + 1) 4 414 K 286 [some (.ref 89)] [.ref 110, .ref 89] ((zI_X12_init_89_30 I), (zJ_X12_init_89_32 J), ((zR_X12_init_89_41 r), kdn 79, 79))
  refine TW.putR (o := some 110) fX12_108_12 (kdn_at (n := 79) (a := 89) (k := (0, 12)) (by decide) rfl) rfl (Or.inr ⟨rfl, fX12_108_12o⟩) dX12_init_286 ?_
  show AW G mX12_init (d + 1) 4 414 K 289 [some (.ref 89)] [] ((zI_X12_init_89_30 I), (zJ_X12_init_89_32 J), ((zR_X12_init_89_42 r), kdn 79, 79))
  refine AW.aload_n dX12_init_289 rfl ?_
  refine AW.sipush (v := (200 : Int32)) dX12_init_290 (by decide) ?_
  refine CW.newPrim (c := 3) (n := 214) (t := 1) (N := 200) rfl (by decide) (by decide) ac_int (by decide) (by decide) (by decide) rfl rfl dX12_init_293 ?_
  show AW G mX12_init (d + 1) 3 214 K 295 [some (.ref 89)] [.ref 111, .ref 89] ((zI_X12_init_89_31 I), (zJ_X12_init_89_33 J), ((zR_X12_init_89_43 r), kdn 80, 80))
  refine TW.putR (o := some 111) fX12_112_12 (kdn_at (n := 80) (a := 89) (k := (0, 12)) (by decide) rfl) rfl (Or.inr ⟨rfl, fX12_112_12o⟩) dX12_init_295 ?_
  show AW G mX12_init (d + 1) 3 214 K 298 [some (.ref 89)] [] ((zI_X12_init_89_31 I), (zJ_X12_init_89_33 J), ((zR_X12_init_89_44 r), kdn 80, 80))
  refine AW.aload_n dX12_init_298 rfl ?_
  refine AW.sipush (v := (200 : Int32)) dX12_init_299 (by decide) ?_
  refine CW.newPrim (c := 2) (n := 14) (t := 1) (N := 200) rfl (by decide) (by decide) ac_int (by decide) (by decide) (by decide) rfl rfl dX12_init_302 ?_
  show AW G mX12_init (d + 1) 2 14 K 304 [some (.ref 89)] [.ref 112, .ref 89] ((zI_X12_init_89_32 I), (zJ_X12_init_89_34 J), ((zR_X12_init_89_45 r), kdn 81, 81))
  refine TW.putR (o := some 112) fX12_115_12 (kdn_at (n := 81) (a := 89) (k := (0, 12)) (by decide) rfl) rfl (Or.inr ⟨rfl, fX12_115_12o⟩) dX12_init_304 ?_
  show AW G mX12_init (d + 1) 2 14 K 307 [some (.ref 89)] [] ((zI_X12_init_89_32 I), (zJ_X12_init_89_34 J), ((zR_X12_init_89_46 r), kdn 81, 81))
  refine AW.aload_n dX12_init_307 rfl ?_
  refine AW.bipush (v := (6 : Int32)) dX12_init_308 (by decide) ?_
  refine CW.newPrim (c := 1) (n := 8) (t := 1) (N := 6) rfl (by decide) (by decide) ac_int (by decide) (by decide) (by decide) rfl rfl dX12_init_310 ?_
  show AW G mX12_init (d + 1) 1 8 K 312 [some (.ref 89)] [.ref 113, .ref 89] ((zI_X12_init_89_33 I), (zJ_X12_init_89_35 J), ((zR_X12_init_89_47 r), kdn 82, 82))
  refine TW.putR (o := some 113) fX12_118_12 (kdn_at (n := 82) (a := 89) (k := (0, 12)) (by decide) rfl) rfl (Or.inr ⟨rfl, fX12_118_12o⟩) dX12_init_312 ?_
  show AW G mX12_init (d + 1) 1 8 K 315 [some (.ref 89)] [] ((zI_X12_init_89_33 I), (zJ_X12_init_89_35 J), ((zR_X12_init_89_48 r), kdn 82, 82))
  refine AW.aload_n dX12_init_315 rfl ?_
  refine AW.bipush (v := (8 : Int32)) dX12_init_316 (by decide) ?_
  refine CW.newPrim (c := 0) (n := 0) (t := 2) (N := 8) rfl (by decide) (by decide) ac_long (by decide) (by decide) (by decide) rfl rfl dX12_init_318 ?_
  show AW G mX12_init (d + 1) 0 0 K 320 [some (.ref 89)] [.ref 114, .ref 89] ((zI_X12_init_89_34 I), (zJ_X12_init_89_36 J), ((zR_X12_init_89_49 r), kdn 83, 83))
  refine TW.putR (o := some 114) fX12_121_12 (kdn_at (n := 83) (a := 89) (k := (0, 12)) (by decide) rfl) rfl (Or.inr ⟨rfl, fX12_121_12o⟩) dX12_init_320 ?_
  show AW G mX12_init (d + 1) 0 0 K 323 [some (.ref 89)] [] ((zI_X12_init_89_34 I), (zJ_X12_init_89_36 J), ((zR_X12_init_89_50 r), kdn 83, 83))
  refine AW.aload_n dX12_init_323 rfl ?_
  refine AW.iconst (v := (0 : Int32)) dX12_init_324 (by decide) ?_
  refine AW.ldc dX12_init_325 kcX12_124 ?_
  refine AW.iconst (v := (1 : Int32)) dX12_init_327 (by decide) ?_
  refine AW.bipush (v := (16 : Int32)) dX12_init_328 (by decide) ?_
  refine AW.iconst (v := (1 : Int32)) dX12_init_330 (by decide) ?_
  refine TW.invv (a := 89) (as := [.int (0 : Int32), .int (100003 : Int32), .int (1 : Int32), .int (16 : Int32), .int (1 : Int32)]) (rest := []) viX12_125_12 (kdn_at (n := 83) (a := 89) (k := (0, 12)) (by decide) rfl) dX12_init_331 rfl rfl (Nat.le_of_ble_eq_true rfl) (c_X12_first hs hf ?_)
  show AW G mX12_init (d + 1) 0 0 K 334 [some (.ref 89)] [] (o, (zJ_X12_init_89_36 J), ((zR_X12_init_89_50 r), kdn 83, 83))
  refine AW.aload_n dX12_init_334 rfl ?_
  refine TW.getR (v := .ref 98) fX12_47_12 (kdn_at (n := 83) (a := 89) (k := (0, 12)) (by decide) rfl) (rf_some rfl) dX12_init_335 ?_
  refine AW.iconst (v := (4 : Int32)) dX12_init_338 (by decide) ?_
  refine AW.ldc dX12_init_339 kcX12_129 ?_
  refine TW.iast (kdn_at (n := 83) (a := 98) (k := (1, 1200)) (by decide) rfl) (show ¬ ((4 : Int32) < 0 ∨ 1200 ≤ (4 : Int32).toNatClampNeg) by decide) dX12_init_341 ?_
  show AW G mX12_init (d + 1) 0 0 K 342 [some (.ref 89)] [] ((zI_X12_init_89_35 o), (zJ_X12_init_89_36 J), ((zR_X12_init_89_50 r), kdn 83, 83))
  refine AW.aload_n dX12_init_342 rfl ?_
  refine TW.getR (v := .ref 98) fX12_47_12 (kdn_at (n := 83) (a := 89) (k := (0, 12)) (by decide) rfl) (rf_some rfl) dX12_init_343 ?_
  refine AW.iconst (v := (5 : Int32)) dX12_init_346 (by decide) ?_
  refine AW.bipush (v := (18 : Int32)) dX12_init_347 (by decide) ?_
  refine TW.iast (kdn_at (n := 83) (a := 98) (k := (1, 1200)) (by decide) rfl) (show ¬ ((5 : Int32) < 0 ∨ 1200 ≤ (5 : Int32).toNatClampNeg) by decide) dX12_init_349 ?_
  show AW G mX12_init (d + 1) 0 0 K 350 [some (.ref 89)] [] ((zI_X12_init_89_36 o), (zJ_X12_init_89_36 J), ((zR_X12_init_89_50 r), kdn 83, 83))
  refine AW.aload_n dX12_init_350 rfl ?_
  refine TW.getR (v := .ref 99) fX12_50_12 (kdn_at (n := 83) (a := 89) (k := (0, 12)) (by decide) rfl) (rf_some rfl) dX12_init_351 ?_
  refine AW.iconst (v := (1 : Int32)) dX12_init_354 (by decide) ?_
  refine AW.iconst (v := (3 : Int32)) dX12_init_355 (by decide) ?_
  refine TW.iast (kdn_at (n := 83) (a := 99) (k := (1, 24)) (by decide) rfl) (show ¬ ((1 : Int32) < 0 ∨ 24 ≤ (1 : Int32).toNatClampNeg) by decide) dX12_init_356 ?_
  show AW G mX12_init (d + 1) 0 0 K 357 [some (.ref 89)] [] ((zI_X12_init_89_37 o), (zJ_X12_init_89_36 J), ((zR_X12_init_89_50 r), kdn 83, 83))
  refine AW.aload_n dX12_init_357 rfl ?_
  refine TW.getR (v := .ref 99) fX12_50_12 (kdn_at (n := 83) (a := 89) (k := (0, 12)) (by decide) rfl) (rf_some rfl) dX12_init_358 ?_
  refine AW.iconst (v := (2 : Int32)) dX12_init_361 (by decide) ?_
  refine AW.bipush (v := (6 : Int32)) dX12_init_362 (by decide) ?_
  refine TW.iast (kdn_at (n := 83) (a := 99) (k := (1, 24)) (by decide) rfl) (show ¬ ((2 : Int32) < 0 ∨ 24 ≤ (2 : Int32).toNatClampNeg) by decide) dX12_init_364 ?_
  show AW G mX12_init (d + 1) 0 0 K 365 [some (.ref 89)] [] ((zI_X12_init_89_38 o), (zJ_X12_init_89_36 J), ((zR_X12_init_89_50 r), kdn 83, 83))
  exact AW.vret (st := []) dX12_init_365 rfl hK
