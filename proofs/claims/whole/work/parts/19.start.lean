/-! ===== from the entry to the loop ===== -/
def iA : Nat → Nat → Int32 := zI_X12_init_89_34 (up (zI_X11_init_32_28 (up (fun _ _ => 0) 32 (fun _ => 0))) 89 (fun _ => 0))
def jA : Nat → Nat → Int64 := zJ_X12_init_89_36 (up (zJ_X11_init_32_20 (up (fun _ _ => 0) 32 (fun _ => 0))) 89 (fun _ => 0))
def rA : Nat → Nat → Option Nat := zR_X12_init_89_50 (up (zR_X11_init_32_33 (up (fun _ _ => none) 32 (fun _ => none))) 89 (fun _ => none))
def ρA : Rh := (rA, kdn 83, 83)
theorem shA : Sh ρA := by
  refine ⟨?_, ?_, ?_, ?_, ?_, Nat.le_refl 83⟩
  · show ∀ q ∈ shK, kdn 83 q.1 = q.2
    decide +kernel
  · show ∀ q ∈ shR, rA q.1 q.2.1 = some q.2.2
    decide +kernel
  · intro i hi
    have h : ∀ i ∈ List.range 13, rA 49 i = some (50 + i) := by decide +kernel
    have e : ρA.1 = rA := rfl
    rw [e]
    exact h i (List.mem_range.mpr hi)
  · intro i hi
    have h : ∀ i ∈ List.range 12, rA 63 i = some (64 + i) := by decide +kernel
    have e : ρA.1 = rA := rfl
    rw [e]
    exact h i (List.mem_range.mpr hi)
  · show ∀ i, i < 4 → rA 38 i = some (81 + 2 * i)
    decide +kernel
def oA : Nat → Nat → Int32 := (f_X12_first 0 ρA iA jA 0 100003 1 16 1).getD iA
theorem fiA (N : Nat) : f_X12_first N ρA iA jA 0 100003 1 16 1 = some oA := by
  have h : (f_X12_first 0 ρA iA jA 0 100003 1 16 1).isSome = true := by decide +kernel
  have e : f_X12_first N ρA iA jA 0 100003 1 16 1 = f_X12_first 0 ρA iA jA 0 100003 1 16 1 := rfl
  rw [e]
  unfold oA
  generalize f_X12_first 0 ρA iA jA 0 100003 1 16 1 = z at h
  cases z with
  | none => cases h
  | some v => rfl
def iZ : Nat → Nat → Int32 := zI_X12_init_89_38 oA
theorem law_aw {nm : String} {G : Gd} {d N n : Nat} (hn : n ≤ 600) {o : (Nat → Nat → Int32) × (Nat → Nat → Int64) × Rh} (hp : f_L_law_18 N G.2.2.2.2.1 G.2.2.2.2.2 n iZ jA ρA 0 = some (Sum.inr o)) :
    AW G (mL nm) (d + 75) room_1.cells room_1.slots (fun _ v => v = some (.int 1)) 0 [some (.ref 25), none, none, none] [] ((fun _ _ => 0), (fun _ _ => 0), ((fun _ _ => none), kdn 0, 0)) := by
  refine AW.le (c' := 1 + (56 + (1 + (25 + 6 * n)))) (n' := 10 + (1028 + (49 + (2355 + 163 * n)))) (Nat.le_trans (m := 3683) (by omega) (Nat.le_of_ble_eq_true rfl)) (Nat.le_trans (m := 101242) (by omega) (Nat.le_of_ble_eq_true rfl)) ?_
  refine CW.new (q := 32) nrL_7 rfl rfl dL_law_0 ?_
  refine AW.dup dL_law_3 rfl ?_
  refine AW.invi (a := 32) (as := []) (rest := [.ref 32]) inL_9 dL_law_4 rfl rfl (Nat.le_of_ble_eq_true rfl) (k_X11_init_32 ?_)
  show AW G (mL nm) (d + 75) (1 + (25 + 6 * n)) (49 + (2355 + 163 * n)) (fun _ v => v = some (.int 1)) 7 [some (.ref 25), none, none, none] [.ref 32] (zI_X11_init_32_28 (up (fun _ _ => 0) 32 (fun _ => 0)), zJ_X11_init_32_20 (up (fun _ _ => 0) 32 (fun _ => 0)), (zR_X11_init_32_33 (up (fun _ _ => none) 32 (fun _ => none)), kdn 57, 57))
  refine AW.astore_n (ls' := [some (.ref 25), some (.ref 32), none, none]) dL_law_7 (Nat.le_of_ble_eq_true rfl) rfl ?_
  refine CW.new (q := 89) nrL_10 rfl rfl dL_law_8 ?_
  refine AW.dup dL_law_11 rfl ?_
  refine AW.invi (a := 89) (as := []) (rest := [.ref 89]) inL_12 dL_law_12 rfl rfl (Nat.le_of_ble_eq_true rfl) (k_X12_init_89 shA (fiA 0) ?_)
  show AW G (mL nm) (d + 75) (6 * n) (163 * n) (fun _ v => v = some (.int 1)) 15 [some (.ref 25), some (.ref 32), none, none] [.ref 89] (iZ, jA, ρA)
  refine AW.astore_n (ls' := [some (.ref 25), some (.ref 32), some (.ref 89), none]) dL_law_15 (Nat.le_of_ble_eq_true rfl) rfl ?_
  refine AW.iconst (v := (0 : Int32)) dL_law_16 (by decide) ?_
  refine AW.istore_n (ls' := [some (.ref 25), some (.ref 32), some (.ref 89), some (.int (0 : Int32))]) dL_law_17 (Nat.le_of_ble_eq_true rfl) rfl ?_
  refine l_L_law_18 rfl rfl n iZ jA ρA 0 shA hp ?_
  intro _
  refine AW.iconst (v := (1 : Int32)) dL_law_1183 (by decide) ?_
  exact AW.zret (st := []) dL_law_1184 rfl (Or.inr rfl) rfl
