/-! ===== the outer cells, as the statement gives them ===== -/
abbrev gvn : Cond := Jvm.Cond.and given_1 narrow_1
theorem en_xl0 {s : State} {args : Array Value} {A : Nat → Prop} (hts : ∀ w ∈ lw_tbl, w.before args s = true) (hg : gvn.before args s = true) (hA : ∀ a : Nat, a < s.heap.size → ¬ A a) : ∃ t : Nat, va_Z RX11 "BOAT_LEAST" "[I" (.ref t) A s s.heap ∧ va_T .int t 4 (fun j => .int (xl0 j)) A s s.heap := by
  have hs := flat_of_before _ hg
  have hel : ∀ j : Nat, j < 4 → (Term.elem (Term.static RX11 "BOAT_LEAST" "[I") (.int (Int32.ofNat j))).eval args s none [] s = some (.int (xl0 j)) := by
    intro j hj
    match j, hj with
    | 0, _ => exact va_eqt (hs (Cond.eq (Term.elem (Term.static RX11 "BOAT_LEAST" "[I") (Term.int 0)) (Term.int 1)) (by decide +kernel))
    | 1, _ => exact va_eqt (hs (Cond.eq (Term.elem (Term.static RX11 "BOAT_LEAST" "[I") (Term.int 1)) (Term.int 0)) (by decide +kernel))
    | 2, _ => exact va_eqt (hs (Cond.eq (Term.elem (Term.static RX11 "BOAT_LEAST" "[I") (Term.int 2)) (Term.int 0)) (by decide +kernel))
    | 3, _ => exact va_eqt (hs (Cond.eq (Term.elem (Term.static RX11 "BOAT_LEAST" "[I") (Term.int 3)) (Term.int 0)) (by decide +kernel))
    | j + 4, h => exact absurd h (by omega)
  obtain ⟨t, ht, hT⟩ := va_Tof (tm := Term.static RX11 "BOAT_LEAST" "[I") (ty := .int) (N := 4) (f := fun j => .int (xl0 j)) (A := A) (by decide) (hs _ (by decide +kernel)) (va_eqt (hs (Cond.eq (Term.length (Term.static RX11 "BOAT_LEAST" "[I")) (Term.int 4)) (by decide +kernel))) hel hA
  exact ⟨t, va_Zof (hts _ (List.mem_of_getElem? (i := 332) (by decide +kernel))) (hts _ (List.mem_of_getElem? (i := 47) (by decide +kernel))) ht hA, hT⟩
theorem en_xl1 {s : State} {args : Array Value} {A : Nat → Prop} (hts : ∀ w ∈ lw_tbl, w.before args s = true) (hg : gvn.before args s = true) (hA : ∀ a : Nat, a < s.heap.size → ¬ A a) : ∃ t : Nat, va_Z RX11 "BOAT_MOST" "[I" (.ref t) A s s.heap ∧ va_T .int t 4 (fun j => .int (xl1 j)) A s s.heap := by
  have hs := flat_of_before _ hg
  have hel : ∀ j : Nat, j < 4 → (Term.elem (Term.static RX11 "BOAT_MOST" "[I") (.int (Int32.ofNat j))).eval args s none [] s = some (.int (xl1 j)) := by
    intro j hj
    match j, hj with
    | 0, _ => exact va_eqt (hs (Cond.eq (Term.elem (Term.static RX11 "BOAT_MOST" "[I") (Term.int 0)) (Term.int 12)) (by decide +kernel))
    | 1, _ => exact va_eqt (hs (Cond.eq (Term.elem (Term.static RX11 "BOAT_MOST" "[I") (Term.int 1)) (Term.int 999)) (by decide +kernel))
    | 2, _ => exact va_eqt (hs (Cond.eq (Term.elem (Term.static RX11 "BOAT_MOST" "[I") (Term.int 2)) (Term.int 99)) (by decide +kernel))
    | 3, _ => exact va_eqt (hs (Cond.eq (Term.elem (Term.static RX11 "BOAT_MOST" "[I") (Term.int 3)) (Term.int 9999)) (by decide +kernel))
    | j + 4, h => exact absurd h (by omega)
  obtain ⟨t, ht, hT⟩ := va_Tof (tm := Term.static RX11 "BOAT_MOST" "[I") (ty := .int) (N := 4) (f := fun j => .int (xl1 j)) (A := A) (by decide) (hs _ (by decide +kernel)) (va_eqt (hs (Cond.eq (Term.length (Term.static RX11 "BOAT_MOST" "[I")) (Term.int 4)) (by decide +kernel))) hel hA
  exact ⟨t, va_Zof (hts _ (List.mem_of_getElem? (i := 334) (by decide +kernel))) (hts _ (List.mem_of_getElem? (i := 47) (by decide +kernel))) ht hA, hT⟩
theorem en_cs {s : State} {args : Array Value} {A : Nat → Prop} (hts : ∀ w ∈ lw_tbl, w.before args s = true) (hg : gvn.before args s = true) (hA : ∀ a : Nat, a < s.heap.size → ¬ A a) : va_Z RJ0 "COMPACT_STRINGS" "Z" (.int 1) A s s.heap :=
  va_Zof (hts _ (List.mem_of_getElem? (i := 498) (by decide +kernel))) (hts _ (List.mem_of_getElem? (i := 62) (by decide +kernel))) (va_eqi (flat_of_before _ hg (Cond.eq (Term.static RJ0 "COMPACT_STRINGS" "Z") (Term.int 1)) (by decide +kernel))) hA
theorem en_sf {s : State} {args : Array Value} {A : Nat → Prop} (hts : ∀ w ∈ lw_tbl, w.before args s = true) (hg : gvn.before args s = true) (hA : ∀ a : Nat, a < s.heap.size → ¬ A a) : va_Zq RJ3 "SIOOBE_FORMATTER" "Ljava/util/function/BiFunction;" A s s.heap :=
  va_Zqof (hts _ (List.mem_of_getElem? (i := 514) (by decide +kernel))) (hts _ (List.mem_of_getElem? (i := 64) (by decide +kernel))) (flat_of_before _ hg _ (by decide +kernel)) hA
