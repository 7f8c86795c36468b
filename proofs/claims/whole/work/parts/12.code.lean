/-! ===== what a method computes, as a function that may fail; the machine does so ===== -/
theorem u2_ne {α : Type} {f : Nat → Nat → α} {a k b j : Nat} {x : α} (h : ¬ b = a) : u2 f a k x b j = f b j := by rw [u2_ap, if_neg h]
theorem u2_nk {α : Type} {f : Nat → Nat → α} {a k j : Nat} {x : α} (h : ¬ j = k) : u2 f a k x a j = f a j := by rw [u2_ap, if_pos rfl, if_neg h]
theorem u2_eq {α : Type} {f : Nat → Nat → α} {a k : Nat} {x : α} : u2 f a k x a k = x := by rw [u2_ap, if_pos rfl, if_pos rfl]
theorem upj_ne {α : Type} {f : Nat → Nat → α} {a b j : Nat} {r : Nat → α} (h : ¬ b = a) : up f a r b j = f b j := by rw [up_ap, if_neg h]
theorem gd_split {α : Type} {P : Prop} {q : Decidable P} {x : Option α} {o : α} (h : (if P then x else none) = some o) : P ∧ x = some o := by
  by_cases hp : P
  · exact ⟨hp, (if_pos hp).symm.trans h⟩
  · rw [if_neg hp] at h; cases h
theorem ob_split {α β : Type} {x : Option α} {f : α → Option β} {o : β} (h : x.bind f = some o) : ∃ v, x = some v ∧ f v = some o := by
  cases x with
  | none => cases h
  | some v => exact ⟨v, rfl, h⟩
theorem bnd_one {α β : Type} {x : α} {f : α → Option β} {o : β} (h : bnd x f = some o) : ∃ v, x = v ∧ f v = some o := ⟨x, rfl, h⟩
def ocase {α β : Type} (o : Option α) (n : β) (s : α → β) : β := match o with
  | none => n
  | some a => s a
theorem ocase_n {α β : Type} {o : Option α} {n : Option β} {s : α → Option β} {r : β} (h : o = none) (e : ocase o n s = some r) : n = some r := by subst h; exact e
theorem ocase_s {α β : Type} {o : Option α} {n : Option β} {s : α → Option β} {r : β} {a : α} (h : o = some a) (e : ocase o n s = some r) : s a = some r := by subst h; exact e
abbrev scase {α β : Type} {γ : Sort _} (s : α ⊕ β) (f : α → γ) (g : β → γ) : γ := match s with
  | .inl a => f a
  | .inr b => g b
abbrev isR (k : Nat × Nat) : Prop := k.1 = 0 ∧ (k.2 = 6 ∨ k.2 = 5 ∨ k.2 = 4 ∨ k.2 = 3 ∨ k.2 = 9 ∨ k.2 = 1)
theorem lc_eq (x y : Int64) : lg_cmp x y = 0 ↔ x = y := by
  unfold lg_cmp
  by_cases h : x > y
  · rw [if_pos h]; exact ⟨fun q => absurd q (by decide), fun q => by subst q; exact absurd h Int64.lt_irrefl⟩
  · rw [if_neg h]
    by_cases e : x = y
    · rw [if_pos e]; exact ⟨fun _ => e, fun _ => rfl⟩
    · rw [if_neg e]; exact ⟨fun q => absurd q (by decide), fun q => absurd q e⟩
theorem lc_lt (x y : Int64) : lg_cmp x y < 0 ↔ x < y := by
  unfold lg_cmp
  by_cases h : x > y
  · rw [if_pos h]; exact ⟨fun q => absurd q (by decide), fun q => absurd (Int64.lt_trans q h) Int64.lt_irrefl⟩
  · rw [if_neg h]
    by_cases e : x = y
    · rw [if_pos e]; exact ⟨fun q => absurd q (by decide), fun q => absurd (e ▸ q) Int64.lt_irrefl⟩
    · rw [if_neg e]; exact ⟨fun _ => Int64.lt_of_le_of_ne (Int64.not_lt.mp h) e, fun _ => by decide⟩
theorem lc_gt (x y : Int64) : 0 < lg_cmp x y ↔ y < x := by
  unfold lg_cmp
  by_cases h : x > y
  · rw [if_pos h]; exact ⟨fun _ => h, fun _ => by decide⟩
  · rw [if_neg h]
    by_cases e : x = y
    · rw [if_pos e]; exact ⟨fun q => absurd q (by decide), fun q => absurd q h⟩
    · rw [if_neg e]; exact ⟨fun q => absurd q (by decide), fun q => absurd q h⟩
theorem lc_le (x y : Int64) : lg_cmp x y ≤ 0 ↔ x ≤ y := by
  rw [← Int32.not_lt, ← Int64.not_lt, lc_gt]
theorem lc_ge (x y : Int64) : 0 ≤ lg_cmp x y ↔ y ≤ x := by
  rw [← Int32.not_lt, ← Int64.not_lt, lc_lt]
section TCALL
variable {G : Gd} {M : Mi} {d c n : Nat} {K : Ah → Option Value → Prop} {pc : Nat} {ls : List (Option Value)} {st : List Value} {h : Ah}
theorem AW.nmI {x v : Int32} (g : x = v) (k : AW G M d c n K pc ls (.int v :: st) h) : AW G M d c n K pc ls (.int x :: st) h := by rw [g]; exact k
theorem AW.nmJ {x v : Int64} (g : x = v) (k : AW G M d c n K pc ls (.long v :: st) h) : AW G M d c n K pc ls (.long x :: st) h := by rw [g]; exact k
theorem nw_char (y : UInt32) : narrow .char (.int (y % 65536).toInt32) = .int (y % 65536).toInt32 := by
  show Value.int ((y % 65536).toInt32.toUInt32.toUInt16.toUInt32.toInt32) = _
  have e : (y % 65536).toInt32.toUInt32 = y % 65536 := rfl
  have e2 : (y % 65536).toUInt16.toUInt32 = y % 65536 := by apply UInt32.toNat_inj.mp; simp
  rw [e, e2]
theorem AW.nmA {o : Option Nat} {a : Nat} (g : o = some a) (k : AW G M d c n K pc ls (.ref a :: st) h) : AW G M d c n K pc ls (va_rf o :: st) h := by rw [g]; exact k
theorem AW.le {c' n' : Nat} (hc : c' ≤ c) (hn : n' ≤ n) (k : AW G M d c' n' K pc ls st h) : AW G M d c n K pc ls st h := by
  intro p l e R s m args below meth cd Q H locs cells slots L F h1 h2 hH hS hL
  exact k p l e R s m args below meth cd Q H locs cells slots L F (by omega) (by omega) hH hS hL
theorem AW.zz (k : AW G M d (0 + c) (0 + n) K pc ls st h) : AW G M d c n K pc ls st h := by rwa [Nat.zero_add, Nat.zero_add] at k
theorem TW.invs {ix k : Nat} {Y : Mi} {as rest : List Value} (hY : StOk M.1.cls ix Y k) (hd : decode M.2.1 pc = .ok (.invokestatic ix, 3)) (hst : as.reverse ++ rest = st) (hk : as.length = k) (hr : (rest.map fun v => v.category).sum ≤ 8)
    (kk : AM G d 0 0 Y as h (fun h' v => AW G M (d + 1) c n K (pc + 3) ls (v.toList ++ rest) h')) : AW G M (d + 1) c n K pc ls st h := AW.zz (AW.invs hY hd hst hk hr kk)
theorem TW.invv {ix ci k a : Nat} {Y : Mi} {as rest : List Value} (hY : ViOk M.1.cls ix ci Y k) (hka : kd h a = (0, ci)) (hd : decode M.2.1 pc = .ok (.invokevirtual ix, 3)) (hst : as.reverse ++ .ref a :: rest = st) (hk : as.length = k) (hr : (rest.map fun v => v.category).sum ≤ 8)
    (kk : AM G d 0 0 Y (.ref a :: as) h (fun h' v => AW G M (d + 1) c n K (pc + 3) ls (v.toList ++ rest) h')) : AW G M (d + 1) c n K pc ls st h := AW.zz (AW.invv hY hka hd hst hk hr kk)
theorem TW.invu {ix ci k a : Nat} {x : MethodName} {Y : Mi} {as rest : List Value} (hY : VuOk M.1.cls ix ci x Y k) (hka : kd h a = (0, ci)) (hd : decode M.2.1 pc = .ok (.invokevirtual ix, 3)) (hst : as.reverse ++ .ref a :: rest = st) (hk : as.length = k) (hr : (rest.map fun v => v.category).sum ≤ 8)
    (kk : AM G d 0 0 Y (.ref a :: as) h (fun h' v => AW G M (d + 1) c n K (pc + 3) ls (v.toList ++ rest) h')) : AW G M (d + 1) c n K pc ls st h := AW.zz (AW.invu hY hka hd hst hk hr kk)
theorem TW.invsu {ix ci k a : Nat} {Y : Mi} {as rest : List Value} {C : String} {T : u_T} {N : Nat} (hY : SuOk M.1.cls ix Y k) (hka : kd h a = (0, ci)) (hc : cls[ci]? = some (C, T, N)) (hd : decode M.2.1 pc = .ok (.invokespecial ix, 3)) (hst : as.reverse ++ .ref a :: rest = st) (hk : as.length = k) (hr : (rest.map fun v => v.category).sum ≤ 8)
    (kk : AM G d 0 0 Y (.ref a :: as) h (fun h' v => AW G M (d + 1) c n K (pc + 3) ls (v.toList ++ rest) h')) : AW G M (d + 1) c n K pc ls st h := AW.zz (AW.invsu hY hka hc hd hst hk hr kk)
theorem TW.invx {ix k i : Nat} {Y : Mi} {as rest : List Value} (hY : SvOk M.1.cls ix Y k) (hi : i < 11) (hd : decode M.2.1 pc = .ok (.invokevirtual ix, 3)) (hst : as.reverse ++ .ref (2 + i) :: rest = st) (hk : as.length = k) (hr : (rest.map fun v => v.category).sum ≤ 8)
    (kk : AM G d 0 0 Y (.ref (2 + i) :: as) h (fun h' v => AW G M (d + 1) c n K (pc + 3) ls (v.toList ++ rest) h')) : AW G M (d + 1) c n K pc ls st h := AW.zz (AW.invx hY hi hd hst hk hr kk)
end TCALL
section TRULE
variable {G : Gd} {M : Mi} {d c n : Nat} {K : Ah → Option Value → Prop} {pc : Nat} {ls : List (Option Value)} {st : List Value} {I : Nat → Nat → Int32} {J : Nat → Nat → Int64} {ρ : Rh}
theorem TW.getQ {a ix k : Nat} {y : FieldType} {fin : Bool} {x : Int32} (f6 : FRef M.1.cls ix 6 k 0 y fin) (f5 : FRef M.1.cls ix 5 k 0 y fin) (f4 : FRef M.1.cls ix 4 k 0 y fin) (f3 : FRef M.1.cls ix 3 k 0 y fin) (f9 : FRef M.1.cls ix 9 k 0 y fin) (f1 : FRef M.1.cls ix 1 k 0 y fin) (hk : isR (ρ.2.1 a)) (hv : I a k = x) (hd : decode M.2.1 pc = .ok (.getfield ix, 3)) (kk : AW G M d c n K (pc + 3) ls (.int x :: st) (I, J, ρ)) : AW G M d c n K pc ls (.ref a :: st) (I, J, ρ) := by
  obtain ⟨h0, h⟩ := hk
  rcases h with h | h | h | h | h | h
  · exact TW.getI f6 (Prod.ext h0 h) hv hd kk
  · exact TW.getI f5 (Prod.ext h0 h) hv hd kk
  · exact TW.getI f4 (Prod.ext h0 h) hv hd kk
  · exact TW.getI f3 (Prod.ext h0 h) hv hd kk
  · exact TW.getI f9 (Prod.ext h0 h) hv hd kk
  · exact TW.getI f1 (Prod.ext h0 h) hv hd kk
theorem TW.aastR {a N v : Nat} {i : Int32} (hk : ρ.2.1 a = (4, N)) (hin : vp_in i N) (hkv : isR (ρ.2.1 v)) (hd : decode M.2.1 pc = .ok (.aastore, 1)) (kk : AW G M d c n K (pc + 1) ls st (I, J, (u2 ρ.1 a (tn i) (some v), ρ.2))) : AW G M d c n K pc ls (.ref v :: .int i :: .ref a :: st) (I, J, ρ) :=
  TW.aast (t := 0) hk (by decide) hin (Prod.ext hkv.1 rfl) (Or.inl ⟨rfl, hkv.2⟩) hd kk
def alρ (ρ : Rh) (k : Nat × Nat) : Rh := (up ρ.1 (32 + ρ.2.2) (fun _ => none), up ρ.2.1 (32 + ρ.2.2) k, ρ.2.2 + 1)
theorem alk {ρ : Rh} {k : Nat × Nat} {q : Nat} (h : 32 + ρ.2.2 = q) : (alρ ρ k).2.1 q = k := by
  show up ρ.2.1 (32 + ρ.2.2) k q = k
  rw [up_ap, if_pos h.symm]
theorem TW.new {ix ci N q : Nat} (hN : NRef M.1.cls ix ci N) (hq : 32 + ρ.2.2 = q) (hd : decode M.2.1 pc = .ok (.new ix, 3)) (kk : AW G M d c n K (pc + 3) ls (.ref q :: st) (up I q (fun _ => 0), up J q (fun _ => 0), alρ ρ (0, ci))) : AW G M d (1 + c) (N + n) K pc ls st (I, J, ρ) := by
  subst hq; exact AW.new hN rfl hd kk
theorem TW.newPrim {t N q : Nat} {at_ : ArrayType} {z : Int32} (hat : newarray.typeOf at_ = aty t) (ht1 : 1 ≤ t) (ht3 : t ≤ 3) (hw : Cond.arrayClass (aty t) ∈ WS) (hz : ¬ z < 0) (hN : z.toNatClampNeg = N) (hb : N ≤ 1000000) (hq : 32 + ρ.2.2 = q) (hd : decode M.2.1 pc = .ok (.newarray at_, 2)) (kk : AW G M d c n K (pc + 2) ls (.ref q :: st) (up I q (fun _ => 0), up J q (fun _ => 0), alρ ρ (t, N))) : AW G M d (1 + c) (N + n) K pc ls (.int z :: st) (I, J, ρ) := by
  subst hq; exact AW.newPrim hat ht1 ht3 hw hz hN hb rfl hd kk
def inst5 (k : Nat) : Int32 := if k = 5 ∨ k = 1 then 1 else 0
theorem inst_z5 (k : Nat) : inst5 k = 0 ∨ inst5 k = 1 := by
  unfold inst5
  split
  · exact Or.inr rfl
  · exact Or.inl rfl
theorem TW.inst5 {a ix : Nat} (hk : isR (ρ.2.1 a)) (hl : Cond.classLink M.1.cls ix RX5 ∈ WS) (hd : decode M.2.1 pc = .ok (.instanceof ix, 3)) (kk : AW G M d c n K (pc + 3) ls (.int (inst5 (ρ.2.1 a).2) :: st) (I, J, ρ)) : AW G M d c n K pc ls (.ref a :: st) (I, J, ρ) := by
  obtain ⟨h0, h⟩ := hk
  rcases h with h | h | h | h | h | h
  · exact AW.instN (ci := 6) (Prod.ext h0 h) rfl hl (by simp [ncL]) hd (by rw [h] at kk; exact kk)
  · exact AW.instY (ci := 5) (Prod.ext h0 h) rfl hl (Or.inl rfl) hd (by rw [h] at kk; exact kk)
  · exact AW.instN (ci := 4) (Prod.ext h0 h) rfl hl (by simp [ncL]) hd (by rw [h] at kk; exact kk)
  · exact AW.instN (ci := 3) (Prod.ext h0 h) rfl hl (by simp [ncL]) hd (by rw [h] at kk; exact kk)
  · exact AW.instN (ci := 9) (Prod.ext h0 h) rfl hl (by simp [ncL]) hd (by rw [h] at kk; exact kk)
  · exact AW.instY (ci := 1) (Prod.ext h0 h) rfl hl (Or.inr (by simp [nwL])) hd (by rw [h] at kk; exact kk)
def inst4 (k : Nat) : Int32 := if k = 4 ∨ k = 3 then 1 else 0
theorem inst_z4 (k : Nat) : inst4 k = 0 ∨ inst4 k = 1 := by
  unfold inst4
  split
  · exact Or.inr rfl
  · exact Or.inl rfl
theorem TW.inst4 {a ix : Nat} (hk : isR (ρ.2.1 a)) (hl : Cond.classLink M.1.cls ix RX4 ∈ WS) (hd : decode M.2.1 pc = .ok (.instanceof ix, 3)) (kk : AW G M d c n K (pc + 3) ls (.int (inst4 (ρ.2.1 a).2) :: st) (I, J, ρ)) : AW G M d c n K pc ls (.ref a :: st) (I, J, ρ) := by
  obtain ⟨h0, h⟩ := hk
  rcases h with h | h | h | h | h | h
  · exact AW.instN (ci := 6) (Prod.ext h0 h) rfl hl (by simp [ncL]) hd (by rw [h] at kk; exact kk)
  · exact AW.instN (ci := 5) (Prod.ext h0 h) rfl hl (by simp [ncL]) hd (by rw [h] at kk; exact kk)
  · exact AW.instY (ci := 4) (Prod.ext h0 h) rfl hl (Or.inl rfl) hd (by rw [h] at kk; exact kk)
  · exact AW.instY (ci := 3) (Prod.ext h0 h) rfl hl (Or.inr (by simp [nwL])) hd (by rw [h] at kk; exact kk)
  · exact AW.instN (ci := 9) (Prod.ext h0 h) rfl hl (by simp [ncL]) hd (by rw [h] at kk; exact kk)
  · exact AW.instN (ci := 1) (Prod.ext h0 h) rfl hl (by simp [ncL]) hd (by rw [h] at kk; exact kk)
def inst3 (k : Nat) : Int32 := if k = 3 then 1 else 0
theorem inst_z3 (k : Nat) : inst3 k = 0 ∨ inst3 k = 1 := by
  unfold inst3
  split
  · exact Or.inr rfl
  · exact Or.inl rfl
theorem TW.inst3 {a ix : Nat} (hk : isR (ρ.2.1 a)) (hl : Cond.classLink M.1.cls ix RX3 ∈ WS) (hd : decode M.2.1 pc = .ok (.instanceof ix, 3)) (kk : AW G M d c n K (pc + 3) ls (.int (inst3 (ρ.2.1 a).2) :: st) (I, J, ρ)) : AW G M d c n K pc ls (.ref a :: st) (I, J, ρ) := by
  obtain ⟨h0, h⟩ := hk
  rcases h with h | h | h | h | h | h
  · exact AW.instN (ci := 6) (Prod.ext h0 h) rfl hl (by simp [ncL]) hd (by rw [h] at kk; exact kk)
  · exact AW.instN (ci := 5) (Prod.ext h0 h) rfl hl (by simp [ncL]) hd (by rw [h] at kk; exact kk)
  · exact AW.instN (ci := 4) (Prod.ext h0 h) rfl hl (by simp [ncL]) hd (by rw [h] at kk; exact kk)
  · exact AW.instY (ci := 3) (Prod.ext h0 h) rfl hl (Or.inl rfl) hd (by rw [h] at kk; exact kk)
  · exact AW.instN (ci := 9) (Prod.ext h0 h) rfl hl (by simp [ncL]) hd (by rw [h] at kk; exact kk)
  · exact AW.instN (ci := 1) (Prod.ext h0 h) rfl hl (by simp [ncL]) hd (by rw [h] at kk; exact kk)
def inst9 (k : Nat) : Int32 := if k = 9 then 1 else 0
theorem inst_z9 (k : Nat) : inst9 k = 0 ∨ inst9 k = 1 := by
  unfold inst9
  split
  · exact Or.inr rfl
  · exact Or.inl rfl
theorem TW.inst9 {a ix : Nat} (hk : isR (ρ.2.1 a)) (hl : Cond.classLink M.1.cls ix RX9 ∈ WS) (hd : decode M.2.1 pc = .ok (.instanceof ix, 3)) (kk : AW G M d c n K (pc + 3) ls (.int (inst9 (ρ.2.1 a).2) :: st) (I, J, ρ)) : AW G M d c n K pc ls (.ref a :: st) (I, J, ρ) := by
  obtain ⟨h0, h⟩ := hk
  rcases h with h | h | h | h | h | h
  · exact AW.instN (ci := 6) (Prod.ext h0 h) rfl hl (by simp [ncL]) hd (by rw [h] at kk; exact kk)
  · exact AW.instN (ci := 5) (Prod.ext h0 h) rfl hl (by simp [ncL]) hd (by rw [h] at kk; exact kk)
  · exact AW.instN (ci := 4) (Prod.ext h0 h) rfl hl (by simp [ncL]) hd (by rw [h] at kk; exact kk)
  · exact AW.instN (ci := 3) (Prod.ext h0 h) rfl hl (by simp [ncL]) hd (by rw [h] at kk; exact kk)
  · exact AW.instY (ci := 9) (Prod.ext h0 h) rfl hl (Or.inl rfl) hd (by rw [h] at kk; exact kk)
  · exact AW.instN (ci := 1) (Prod.ext h0 h) rfl hl (by simp [ncL]) hd (by rw [h] at kk; exact kk)
def inst1 (k : Nat) : Int32 := if k = 1 then 1 else 0
theorem inst_z1 (k : Nat) : inst1 k = 0 ∨ inst1 k = 1 := by
  unfold inst1
  split
  · exact Or.inr rfl
  · exact Or.inl rfl
theorem TW.inst1 {a ix : Nat} (hk : isR (ρ.2.1 a)) (hl : Cond.classLink M.1.cls ix RX1 ∈ WS) (hd : decode M.2.1 pc = .ok (.instanceof ix, 3)) (kk : AW G M d c n K (pc + 3) ls (.int (inst1 (ρ.2.1 a).2) :: st) (I, J, ρ)) : AW G M d c n K pc ls (.ref a :: st) (I, J, ρ) := by
  obtain ⟨h0, h⟩ := hk
  rcases h with h | h | h | h | h | h
  · exact AW.instN (ci := 6) (Prod.ext h0 h) rfl hl (by simp [ncL]) hd (by rw [h] at kk; exact kk)
  · exact AW.instN (ci := 5) (Prod.ext h0 h) rfl hl (by simp [ncL]) hd (by rw [h] at kk; exact kk)
  · exact AW.instN (ci := 4) (Prod.ext h0 h) rfl hl (by simp [ncL]) hd (by rw [h] at kk; exact kk)
  · exact AW.instN (ci := 3) (Prod.ext h0 h) rfl hl (by simp [ncL]) hd (by rw [h] at kk; exact kk)
  · exact AW.instN (ci := 9) (Prod.ext h0 h) rfl hl (by simp [ncL]) hd (by rw [h] at kk; exact kk)
  · exact AW.instY (ci := 1) (Prod.ext h0 h) rfl hl (Or.inl rfl) hd (by rw [h] at kk; exact kk)
end TRULE
theorem Sh.put {ρ : Rh} (h : Sh ρ) (a k : Nat) (o : Option Nat) (h1 : ∀ q ∈ shR, ¬ (q.1 = a ∧ q.2.1 = k)) (h2 : ¬ a = 49 ∧ ¬ a = 63 ∧ ¬ a = 38) : Sh (u2 ρ.1 a k o, ρ.2) := by
  refine ⟨h.1, fun q hq => ?_, fun i hi => ?_, fun i hi => ?_, fun i hi => ?_, h.2.2.2.2.2⟩
  · show u2 ρ.1 a k o q.1 q.2.1 = _
    rw [u2_ap]
    by_cases e : q.1 = a
    · rw [if_pos e, if_neg fun z => h1 q hq ⟨e, z⟩]; exact h.2.1 q hq
    · rw [if_neg e]; exact h.2.1 q hq
  · show u2 ρ.1 a k o 49 i = _
    rw [u2_ap, if_neg fun z => h2.1 z.symm]; exact h.2.2.1 i hi
  · show u2 ρ.1 a k o 63 i = _
    rw [u2_ap, if_neg fun z => h2.2.1 z.symm]; exact h.2.2.2.1 i hi
  · show u2 ρ.1 a k o 38 i = _
    rw [u2_ap, if_neg fun z => h2.2.2 z.symm]; exact h.2.2.2.2.1 i hi
theorem shR_33 : ∀ q ∈ shR, ¬ q.1 = 33 := by decide
theorem shR_34 : ∀ q ∈ shR, ¬ q.1 = 34 := by decide
theorem shR_lt : ∀ q ∈ shR, q.1 < 115 := by decide
theorem shK_lt : ∀ q ∈ shK, q.1 < 115 := by decide
theorem Sh.putH {ρ : Rh} (h : Sh ρ) {a : Nat} (ha : 115 ≤ a) (k : Nat) (o : Option Nat) : Sh (u2 ρ.1 a k o, ρ.2) :=
  Sh.put h a k o (fun q hq z => absurd (shR_lt q hq) (by rw [z.1]; omega)) ⟨by omega, by omega, by omega⟩
theorem Sh.al {ρ : Rh} (h : Sh ρ) (k : Nat × Nat) : Sh (alρ ρ k) := by
  have hn := h.2.2.2.2.2
  refine ⟨fun q hq => ?_, fun q hq => ?_, fun i hi => ?_, fun i hi => ?_, fun i hi => ?_, Nat.le_succ_of_le hn⟩
  · show up ρ.2.1 (32 + ρ.2.2) k q.1 = _
    rw [up_ap, if_neg fun e => absurd (shK_lt q hq) (by omega)]; exact h.1 q hq
  · show up ρ.1 (32 + ρ.2.2) (fun _ => none) q.1 q.2.1 = _
    rw [up_ap, if_neg fun e => absurd (shR_lt q hq) (by omega)]; exact h.2.1 q hq
  · show up ρ.1 (32 + ρ.2.2) (fun _ => none) 49 i = _
    rw [up_ap, if_neg (by omega)]; exact h.2.2.1 i hi
  · show up ρ.1 (32 + ρ.2.2) (fun _ => none) 63 i = _
    rw [up_ap, if_neg (by omega)]; exact h.2.2.2.1 i hi
  · show up ρ.1 (32 + ρ.2.2) (fun _ => none) 38 i = _
    rw [up_ap, if_neg (by omega)]; exact h.2.2.2.2.1 i hi
theorem shR_6 : ∀ q ∈ shR, q.2.1 = 6 → q.1 = 32 ∨ q.1 = 89 ∨ q.1 = 48 := by decide
theorem Sh.putB {ρ : Rh} (h : Sh ρ) {a : Nat} (hk : ρ.2.1 a = (0, 0)) (o : Option Nat) : Sh (u2 ρ.1 a 6 o, ρ.2) := by
  refine Sh.put h a 6 o (fun q hq z => ?_) ⟨fun e => ?_, fun e => ?_, fun e => ?_⟩
  · rcases shR_6 q hq z.2 with e | e | e
    · rw [← z.1, e, h.k32] at hk; cases hk
    · rw [← z.1, e, h.k89] at hk; cases hk
    · rw [← z.1, e, h.k48] at hk; cases hk
  · rw [e, h.k49] at hk; cases hk
  · rw [e, h.k63] at hk; cases hk
  · rw [e, h.k38] at hk; cases hk
