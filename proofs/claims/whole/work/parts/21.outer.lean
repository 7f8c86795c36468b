/-! ===== the outer cells, as the statement gives them ===== -/
abbrev gvn : Cond := Jvm.Cond.and given_1 narrow_1
theorem en_xl0 {s : State} {args : Array Value} {A : Nat → Prop} (hts : ∀ w ∈ lw_tbl, w.before args s = true) (hg : gvn.before args s = true) (hA : ∀ a : Nat, a < s.heap.size → ¬ A a) : ∃ t : Nat, va_Z RX11 "BOAT_LEAST" "[I" (.ref t) A s s.heap ∧ va_T .int t 4 (fun j => .int (xl0 j)) A s s.heap := by
  have hs := flat_of_before _ hg
  have hel : ∀ j : Nat, j < 4 → (Term.elem (Term.static RX11 "BOAT_LEAST" "[I") (.int (Int32.ofNat j))).eval args s none [] s = some (.int (xl0 j)) := by
    intro j hj
    match j, hj with
    | 0, _ => exact va_eqt (hs (Cond.eq (Term.elem (Term.static RX11 "BOAT_LEAST" "[I") (Term.int 0)) (Term.int 1)) (by decide +kernel))
    | 1, _ => exact va_eqt (hs (Cond.eq (Term.elem (Term.static RX11 "BOAT_LEAST" "[I") (Term.int 1)) (Term.int 0)) (by decide +kernel))
    | 2, _ => exact va_eqt (hs (Cond.eq (Term.elem (Term.static RX11 "BOAT_LEAST" "[I") (Term.int 2)) (Term.int 0)) (by decide +kernel))
    | 3, _ => exact va_eqt (hs (Cond.eq (Term.elem (Term.static RX11 "BOAT_LEAST" "[I") (Term.int 3)) (Term.int 0)) (by decide +kernel))
    | j + 4, h => exact absurd h (by omega)
  obtain ⟨t, ht, hT⟩ := va_Tof (tm := Term.static RX11 "BOAT_LEAST" "[I") (ty := .int) (N := 4) (f := fun j => .int (xl0 j)) (A := A) (by decide) (hs _ (by decide +kernel)) (va_eqt (hs (Cond.eq (Term.length (Term.static RX11 "BOAT_LEAST" "[I")) (Term.int 4)) (by decide +kernel))) hel hA
  exact ⟨t, va_Zof (hts _ (List.mem_of_getElem? (i := 332) (by decide +kernel))) (hts _ (List.mem_of_getElem? (i := 47) (by decide +kernel))) ht hA, hT⟩
theorem en_xl1 {s : State} {args : Array Value} {A : Nat → Prop} (hts : ∀ w ∈ lw_tbl, w.before args s = true) (hg : gvn.before args s = true) (hA : ∀ a : Nat, a < s.heap.size → ¬ A a) : ∃ t : Nat, va_Z RX11 "BOAT_MOST" "[I" (.ref t) A s s.heap ∧ va_T .int t 4 (fun j => .int (xl1 j)) A s s.heap := by
  have hs := flat_of_before _ hg
  have hel : ∀ j : Nat, j < 4 → (Term.elem (Term.static RX11 "BOAT_MOST" "[I") (.int (Int32.ofNat j))).eval args s none [] s = some (.int (xl1 j)) := by
    intro j hj
    match j, hj with
    | 0, _ => exact va_eqt (hs (Cond.eq (Term.elem (Term.static RX11 "BOAT_MOST" "[I") (Term.int 0)) (Term.int 12)) (by decide +kernel))
    | 1, _ => exact va_eqt (hs (Cond.eq (Term.elem (Term.static RX11 "BOAT_MOST" "[I") (Term.int 1)) (Term.int 999)) (by decide +kernel))
    | 2, _ => exact va_eqt (hs (Cond.eq (Term.elem (Term.static RX11 "BOAT_MOST" "[I") (Term.int 2)) (Term.int 99)) (by decide +kernel))
    | 3, _ => exact va_eqt (hs (Cond.eq (Term.elem (Term.static RX11 "BOAT_MOST" "[I") (Term.int 3)) (Term.int 9999)) (by decide +kernel))
    | j + 4, h => exact absurd h (by omega)
  obtain ⟨t, ht, hT⟩ := va_Tof (tm := Term.static RX11 "BOAT_MOST" "[I") (ty := .int) (N := 4) (f := fun j => .int (xl1 j)) (A := A) (by decide) (hs _ (by decide +kernel)) (va_eqt (hs (Cond.eq (Term.length (Term.static RX11 "BOAT_MOST" "[I")) (Term.int 4)) (by decide +kernel))) hel hA
  exact ⟨t, va_Zof (hts _ (List.mem_of_getElem? (i := 334) (by decide +kernel))) (hts _ (List.mem_of_getElem? (i := 47) (by decide +kernel))) ht hA, hT⟩
theorem en_cs {s : State} {args : Array Value} {A : Nat → Prop} (hts : ∀ w ∈ lw_tbl, w.before args s = true) (hg : gvn.before args s = true) (hA : ∀ a : Nat, a < s.heap.size → ¬ A a) : va_Z RJ0 "COMPACT_STRINGS" "Z" (.int 1) A s s.heap :=
  va_Zof (hts _ (List.mem_of_getElem? (i := 498) (by decide +kernel))) (hts _ (List.mem_of_getElem? (i := 62) (by decide +kernel))) (va_eqi (flat_of_before _ hg (Cond.eq (Term.static RJ0 "COMPACT_STRINGS" "Z") (Term.int 1)) (by decide +kernel))) hA
theorem en_sf {s : State} {args : Array Value} {A : Nat → Prop} (hts : ∀ w ∈ lw_tbl, w.before args s = true) (hg : gvn.before args s = true) (hA : ∀ a : Nat, a < s.heap.size → ¬ A a) : va_Zq RJ3 "SIOOBE_FORMATTER" "Ljava/util/function/BiFunction;" A s s.heap :=
  va_Zqof (hts _ (List.mem_of_getElem? (i := 514) (by decide +kernel))) (hts _ (List.mem_of_getElem? (i := 64) (by decide +kernel))) (flat_of_before _ hg _ (by decide +kernel)) hA
def neIx : List (List Nat) := [[], [170], [177, 178], [186, 187, 188], [196, 197, 198, 199], [209, 210, 211, 212, 213], [222, 223, 224, 225, 226, 227], [235, 236, 237, 238, 239, 240, 241], [251, 252, 253, 254, 255, 256, 257, 258], [268, 269, 270, 271, 272, 273, 274, 275, 276], [285, 286, 287, 288, 289, 290, 291, 292, 293, 294]]
theorem en_str {s : State} {args : Array Value} {A : Nat → Prop} (hts : ∀ w ∈ lw_tbl, w.before args s = true) (hg : gvn.before args s = true) (hA : ∀ a : Nat, a < s.heap.size → ¬ A a) : ∃ adK adV : Nat → Nat, vk_S 11 sLen sByt adK adV A s s.heap ∧ ∀ i, i < 11 → vk_R RX8 (sIx i) (sTx i) (adK i) s := by
  have hs := flat_of_before _ hg
  have k1 : ∀ i ∈ List.range 11, Cond.exactly (Term.string RX8 (sIx i)) "java/lang/String" ∈ flatC gvn := by decide +kernel
  have k2 : ∀ i ∈ List.range 11, Cond.eq (.field (Term.string RX8 (sIx i)) "java/lang/String" "coder" "B") (.int 0) ∈ flatC gvn := by decide +kernel
  have k3 : ∀ i ∈ List.range 11, Cond.arrayOf (.field (Term.string RX8 (sIx i)) "java/lang/String" "value" "[B") .byte ∈ flatC gvn := by decide +kernel
  have k4 : ∀ i ∈ List.range 11, Cond.eq (.length (.field (Term.string RX8 (sIx i)) "java/lang/String" "value" "[B")) (.int (Int32.ofNat (sLen.getD i 0))) ∈ flatC gvn := by decide +kernel
  have k5 : ∀ i ∈ List.range 11, ∀ j ∈ List.range (sLen.getD i 0), Cond.eq (.elem (.field (Term.string RX8 (sIx i)) "java/lang/String" "value" "[B") (.int (Int32.ofNat j))) (.int ((sByt.getD i []).getD j 0)) ∈ flatC gvn := by decide +kernel
  have k6 : ∀ i ∈ List.range 11, ∀ j ∈ List.range i, (flatC gvn)[(neIx.getD i []).getD j 0]? = some (Cond.not (Cond.eq (Term.string RX8 (sIx j)) (Term.string RX8 (sIx i)))) := by decide +kernel
  have k7 : ∀ i ∈ List.range 11, Cond.stringRef RX8 (sIx i) (sTx i) ∈ lw_tbl := by decide +kernel
  have k8 : ∀ i ∈ List.range 11, sLen.getD i 0 < 2 ^ 31 := by decide
  have r : ∀ {i : Nat}, i < 11 → i ∈ List.range 11 := fun h => List.mem_range.mpr h
  obtain ⟨adK, adV, h1, h2⟩ := vk_Sof (N := 11) (tm := fun i => Term.string RX8 (sIx i)) (len := sLen) (byt := sByt) (A := A) (fun i hi => k8 i (r hi)) (fun i hi => hs _ (k1 i (r hi))) (fun i hi => hs _ (k2 i (r hi))) (fun i hi => hs _ (k3 i (r hi))) (fun i hi => hs _ (k4 i (r hi))) (fun i hi j hj => hs _ (k5 i (r hi) j (List.mem_range.mpr hj))) (fun i j hi hj hn => by
    rcases Nat.lt_or_gt_of_ne hn with h | h
    · exact Or.inl (hs _ (List.mem_of_getElem? (k6 j (r hj) i (List.mem_range.mpr h))))
    · exact Or.inr (hs _ (List.mem_of_getElem? (k6 i (r hi) j (List.mem_range.mpr h))))) hA
  exact ⟨adK, adV, h1, fun i hi => vk_R.of (hts _ (k7 i (r hi))) (h2 i hi)⟩
theorem en_nw {s : State} {args : Array Value} (hts : ∀ w ∈ lw_tbl, w.before args s = true) : ∀ w ∈ nwL, va_Nw w s := by
  have k : ∀ w ∈ nwL, w ∈ lw_tbl := by decide +kernel
  have k2 : ∀ w ∈ nwL, w.onTables = true := by decide +kernel
  exact fun w hw => va_Nw.of (k2 w hw) (hts w (k w hw))
theorem en_nc {s : State} {args : Array Value} (hg : gvn.before args s = true) : ∀ q ∈ ncL, va_Nc q.1 q.2 s := by
  have k : ∀ q ∈ ncL, Cond.not (.castable q.1 q.2) ∈ flatC gvn := by decide +kernel
  exact fun q hq => va_Nc.of (flat_of_before _ hg _ (k q hq))
theorem en_ao {s : State} {args : Array Value} (hts : ∀ w ∈ lw_tbl, w.before args s = true) : va_AO RX6 s ∧ va_AO RX2 s ∧ va_AO RX7 s ∧ zAO s :=
  ⟨(show va_AO RX6 s from hts (Cond.arrayOver (.object RX6)) (List.mem_of_getElem? (i := 77) (by decide +kernel))), (show va_AO RX2 s from hts (Cond.arrayOver (.object RX2)) (List.mem_of_getElem? (i := 79) (by decide +kernel))), (show va_AO RX7 s from hts (Cond.arrayOver (.object RX7)) (List.mem_of_getElem? (i := 119) (by decide +kernel))), (show zAO s from hts (Cond.arrayOver (.array .int)) (List.mem_of_getElem? (i := 187) (by decide +kernel)))⟩
