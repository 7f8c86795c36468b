/-! ===== the law's loop (the name of the method is left open: the start does not tell it) ===== -/
abbrev mL (nm : String) : Mi := (⟨RL, nm, "([I)Z"⟩, cL_law, 4, some .boolean)
def f_L_law_18 (N : Nat) (L : Nat) (X : Nat → Int32) : Nat → (Nat → Nat → Int32) → (Nat → Nat → Int64) → Rh → Int32 → Option (((Nat → Nat → Int32) × (Nat → Nat → Int64) × (Rh) × Int32) ⊕ ((Nat → Nat → Int32) × (Nat → Nat → Int64) × (Rh)))
  | 0, _, _, _, _ => none
  | n + 1, I1, J2, R3, i4 => (if (((Int32.ofNat L) - (6 : Int32)) < i4) then some (Sum.inr (I1, J2, R3)) else (if ¬ (i4 < 0 ∨ L ≤ tn i4) then (if ((X (tn i4)) &&& (31 : Int32)) = (0 : Int32) then (if ¬ ((i4 + (1 : Int32)) < 0 ∨ L ≤ tn (i4 + (1 : Int32))) then (if ¬ ((i4 + (2 : Int32)) < 0 ∨ L ≤ tn (i4 + (2 : Int32))) then (Option.bind (f_X11_man N R3 I1 J2 (X (tn (i4 + (1 : Int32)))) (X (tn (i4 + (2 : Int32))))) fun v8 => (if ¬ ((i4 + (1 : Int32)) < 0 ∨ L ≤ tn (i4 + (1 : Int32))) then (if ¬ ((i4 + (2 : Int32)) < 0 ∨ L ≤ tn (i4 + (2 : Int32))) then (Option.bind (f_X12_man N R3 v8.1 J2 (X (tn (i4 + (1 : Int32)))) (X (tn (i4 + (2 : Int32))))) fun v11 => (if (v8.2 = v11.2) then f_L_law_18 N L X n v11.1 J2 R3 (i4 + (6 : Int32)) else some (Sum.inl (v11.1, J2, R3, (0 : Int32))))) else none) else none)) else none) else none) else (if ((X (tn i4)) &&& (31 : Int32)) = (1 : Int32) then (if ¬ ((i4 + (1 : Int32)) < 0 ∨ L ≤ tn (i4 + (1 : Int32))) then (if ¬ ((i4 + (2 : Int32)) < 0 ∨ L ≤ tn (i4 + (2 : Int32))) then (if ¬ ((i4 + (3 : Int32)) < 0 ∨ L ≤ tn (i4 + (3 : Int32))) then (Option.bind (f_X11_set N R3 I1 J2 (X (tn (i4 + (1 : Int32)))) (X (tn (i4 + (2 : Int32)))) (X (tn (i4 + (3 : Int32))))) fun v15 => (if ¬ ((i4 + (1 : Int32)) < 0 ∨ L ≤ tn (i4 + (1 : Int32))) then (if ¬ ((i4 + (2 : Int32)) < 0 ∨ L ≤ tn (i4 + (2 : Int32))) then (if ¬ ((i4 + (3 : Int32)) < 0 ∨ L ≤ tn (i4 + (3 : Int32))) then (Option.bind (f_X12_set N R3 v15.1 J2 (X (tn (i4 + (1 : Int32)))) (X (tn (i4 + (2 : Int32)))) (X (tn (i4 + (3 : Int32))))) fun v19 => (if (v15.2 = v19.2) then f_L_law_18 N L X n v19.1 J2 R3 (i4 + (6 : Int32)) else some (Sum.inl (v19.1, J2, R3, (0 : Int32))))) else none) else none) else none)) else none) else none) else none) else (if ((X (tn i4)) &&& (31 : Int32)) = (2 : Int32) then (if ¬ ((i4 + (1 : Int32)) < 0 ∨ L ≤ tn (i4 + (1 : Int32))) then (if ¬ ((i4 + (2 : Int32)) < 0 ∨ L ≤ tn (i4 + (2 : Int32))) then (Option.bind (f_X11_boat N R3 I1 J2 (X (tn (i4 + (1 : Int32)))) (X (tn (i4 + (2 : Int32))))) fun v22 => (if ¬ ((i4 + (1 : Int32)) < 0 ∨ L ≤ tn (i4 + (1 : Int32))) then (if ¬ ((i4 + (2 : Int32)) < 0 ∨ L ≤ tn (i4 + (2 : Int32))) then (Option.bind (f_X12_boat N R3 v22.1 J2 (X (tn (i4 + (1 : Int32)))) (X (tn (i4 + (2 : Int32))))) fun v25 => (if (v22.2 = v25.2) then f_L_law_18 N L X n v25.1 J2 R3 (i4 + (6 : Int32)) else some (Sum.inl (v25.1, J2, R3, (0 : Int32))))) else none) else none)) else none) else none) else (if ((X (tn i4)) &&& (31 : Int32)) = (3 : Int32) then (if ¬ ((i4 + (1 : Int32)) < 0 ∨ L ≤ tn (i4 + (1 : Int32))) then (if ¬ ((i4 + (2 : Int32)) < 0 ∨ L ≤ tn (i4 + (2 : Int32))) then (if ¬ ((i4 + (3 : Int32)) < 0 ∨ L ≤ tn (i4 + (3 : Int32))) then (Option.bind (f_X11_day N R3 I1 J2 (X (tn (i4 + (1 : Int32)))) (X (tn (i4 + (2 : Int32)))) (X (tn (i4 + (3 : Int32))))) fun v29 => (if ¬ ((i4 + (1 : Int32)) < 0 ∨ L ≤ tn (i4 + (1 : Int32))) then (if ¬ ((i4 + (2 : Int32)) < 0 ∨ L ≤ tn (i4 + (2 : Int32))) then (if ¬ ((i4 + (3 : Int32)) < 0 ∨ L ≤ tn (i4 + (3 : Int32))) then (Option.bind (f_X12_day N R3 v29.1 J2 (X (tn (i4 + (1 : Int32)))) (X (tn (i4 + (2 : Int32)))) (X (tn (i4 + (3 : Int32))))) fun v33 => (if (v29.2 = v33.2) then f_L_law_18 N L X n v33.1 J2 R3 (i4 + (6 : Int32)) else some (Sum.inl (v33.1, J2, R3, (0 : Int32))))) else none) else none) else none)) else none) else none) else none) else (if ((X (tn i4)) &&& (31 : Int32)) = (4 : Int32) then (if ¬ ((i4 + (1 : Int32)) < 0 ∨ L ≤ tn (i4 + (1 : Int32))) then (Option.bind (f_X11_boatTold N R3 I1 J2 (X (tn (i4 + (1 : Int32))))) fun v35 => (if ¬ ((i4 + (1 : Int32)) < 0 ∨ L ≤ tn (i4 + (1 : Int32))) then (Option.bind (f_X12_boatTold N R3 I1 J2 (X (tn (i4 + (1 : Int32))))) fun v37 => (if (v35 = v37) then f_L_law_18 N L X n I1 J2 R3 (i4 + (6 : Int32)) else some (Sum.inl (I1, J2, R3, (0 : Int32))))) else none)) else none) else (if ((X (tn i4)) &&& (31 : Int32)) = (5 : Int32) then (if ¬ ((i4 + (1 : Int32)) < 0 ∨ L ≤ tn (i4 + (1 : Int32))) then (if ¬ ((i4 + (2 : Int32)) < 0 ∨ L ≤ tn (i4 + (2 : Int32))) then (if ¬ ((i4 + (3 : Int32)) < 0 ∨ L ≤ tn (i4 + (3 : Int32))) then (Option.bind (f_X11_rule N R3 I1 J2 (X (tn (i4 + (1 : Int32)))) (X (tn (i4 + (2 : Int32)))) (X (tn (i4 + (3 : Int32))))) fun v41 => (if ¬ ((i4 + (1 : Int32)) < 0 ∨ L ≤ tn (i4 + (1 : Int32))) then (if ¬ ((i4 + (2 : Int32)) < 0 ∨ L ≤ tn (i4 + (2 : Int32))) then (if ¬ ((i4 + (3 : Int32)) < 0 ∨ L ≤ tn (i4 + (3 : Int32))) then (Option.bind (f_X12_rule N v41.2.2.1 v41.1 v41.2.1 (X (tn (i4 + (1 : Int32)))) (X (tn (i4 + (2 : Int32)))) (X (tn (i4 + (3 : Int32))))) fun v45 => (if (v41.2.2.2 = v45.2) then f_L_law_18 N L X n v45.1 v41.2.1 v41.2.2.1 (i4 + (6 : Int32)) else some (Sum.inl (v45.1, v41.2.1, v41.2.2.1, (0 : Int32))))) else none) else none) else none)) else none) else none) else none) else (if ((X (tn i4)) &&& (31 : Int32)) = (6 : Int32) then (if ¬ ((i4 + (1 : Int32)) < 0 ∨ L ≤ tn (i4 + (1 : Int32))) then (if ¬ ((i4 + (2 : Int32)) < 0 ∨ L ≤ tn (i4 + (2 : Int32))) then (Option.bind (f_X11_ruleTold N R3 I1 J2 (X (tn (i4 + (1 : Int32)))) (X (tn (i4 + (2 : Int32))))) fun v48 => (if ¬ ((i4 + (1 : Int32)) < 0 ∨ L ≤ tn (i4 + (1 : Int32))) then (if ¬ ((i4 + (2 : Int32)) < 0 ∨ L ≤ tn (i4 + (2 : Int32))) then (Option.bind (f_X12_ruleTold N R3 I1 J2 (X (tn (i4 + (1 : Int32)))) (X (tn (i4 + (2 : Int32))))) fun v51 => (if (v48 = v51) then f_L_law_18 N L X n I1 J2 R3 (i4 + (6 : Int32)) else some (Sum.inl (I1, J2, R3, (0 : Int32))))) else none) else none)) else none) else none) else (if ((X (tn i4)) &&& (31 : Int32)) = (7 : Int32) then (if ¬ ((i4 + (1 : Int32)) < 0 ∨ L ≤ tn (i4 + (1 : Int32))) then (if ¬ ((i4 + (2 : Int32)) < 0 ∨ L ≤ tn (i4 + (2 : Int32))) then (if ¬ ((i4 + (3 : Int32)) < 0 ∨ L ≤ tn (i4 + (3 : Int32))) then (Option.bind (f_X11_feed N R3 I1 J2 ((((X (tn (i4 + (1 : Int32)))).toInt64) <<< ((32 : Int32).toInt64 &&& 63)) ||| (((X (tn (i4 + (2 : Int32)))).toInt64) &&& (4294967295 : Int64))) (X (tn (i4 + (3 : Int32))))) fun v55 => (if ¬ ((i4 + (1 : Int32)) < 0 ∨ L ≤ tn (i4 + (1 : Int32))) then (if ¬ ((i4 + (2 : Int32)) < 0 ∨ L ≤ tn (i4 + (2 : Int32))) then (if ¬ ((i4 + (3 : Int32)) < 0 ∨ L ≤ tn (i4 + (3 : Int32))) then (Option.bind (f_X12_feed N R3 v55.1 J2 ((((X (tn (i4 + (1 : Int32)))).toInt64) <<< ((32 : Int32).toInt64 &&& 63)) ||| (((X (tn (i4 + (2 : Int32)))).toInt64) &&& (4294967295 : Int64))) (X (tn (i4 + (3 : Int32))))) fun v59 => (if (v55.2 = v59.2) then f_L_law_18 N L X n v59.1 J2 R3 (i4 + (6 : Int32)) else some (Sum.inl (v59.1, J2, R3, (0 : Int32))))) else none) else none) else none)) else none) else none) else none) else (if ((X (tn i4)) &&& (31 : Int32)) = (8 : Int32) then (Option.bind (f_X11_text N R3 I1 J2) fun v60 => (Option.bind (f_X12_text N v60.2.2.1 v60.1 v60.2.1) fun v61 => (if (v60.2.2.2 = v61.2) then f_L_law_18 N L X n v61.1 v60.2.1 v60.2.2.1 (i4 + (6 : Int32)) else some (Sum.inl (v61.1, v60.2.1, v60.2.2.1, (0 : Int32)))))) else (if ((X (tn i4)) &&& (31 : Int32)) = (9 : Int32) then (if ¬ ((i4 + (1 : Int32)) < 0 ∨ L ≤ tn (i4 + (1 : Int32))) then (Option.bind (f_X11_force N R3 I1 J2 (X (tn (i4 + (1 : Int32))))) fun v63 => (if ¬ ((i4 + (1 : Int32)) < 0 ∨ L ≤ tn (i4 + (1 : Int32))) then (Option.bind (f_X12_force N v63.1 I1 J2 (X (tn (i4 + (1 : Int32))))) fun v65 => (if (v63.2 = v65.2) then f_L_law_18 N L X n v65.1 J2 v63.1 (i4 + (6 : Int32)) else some (Sum.inl (v65.1, J2, v63.1, (0 : Int32))))) else none)) else none) else (if ((X (tn i4)) &&& (31 : Int32)) = (10 : Int32) then (if ¬ ((i4 + (1 : Int32)) < 0 ∨ L ≤ tn (i4 + (1 : Int32))) then (if ¬ ((i4 + (2 : Int32)) < 0 ∨ L ≤ tn (i4 + (2 : Int32))) then (if ¬ ((i4 + (3 : Int32)) < 0 ∨ L ≤ tn (i4 + (3 : Int32))) then (Option.bind (f_X11_home N R3 I1 J2 (X (tn (i4 + (1 : Int32)))) (X (tn (i4 + (2 : Int32)))) (X (tn (i4 + (3 : Int32))))) fun v69 => (if ¬ ((i4 + (1 : Int32)) < 0 ∨ L ≤ tn (i4 + (1 : Int32))) then (if ¬ ((i4 + (2 : Int32)) < 0 ∨ L ≤ tn (i4 + (2 : Int32))) then (if ¬ ((i4 + (3 : Int32)) < 0 ∨ L ≤ tn (i4 + (3 : Int32))) then (Option.bind (f_X12_home N v69.2.2.1 v69.1 v69.2.1 (X (tn (i4 + (1 : Int32)))) (X (tn (i4 + (2 : Int32)))) (X (tn (i4 + (3 : Int32))))) fun v73 => (if (v69.2.2.2 = v73.2) then f_L_law_18 N L X n v73.1 v69.2.1 v69.2.2.1 (i4 + (6 : Int32)) else some (Sum.inl (v73.1, v69.2.1, v69.2.2.1, (0 : Int32))))) else none) else none) else none)) else none) else none) else none) else (if ((X (tn i4)) &&& (31 : Int32)) = (11 : Int32) then (if ¬ ((i4 + (1 : Int32)) < 0 ∨ L ≤ tn (i4 + (1 : Int32))) then (if ¬ ((i4 + (2 : Int32)) < 0 ∨ L ≤ tn (i4 + (2 : Int32))) then (if ¬ ((i4 + (3 : Int32)) < 0 ∨ L ≤ tn (i4 + (3 : Int32))) then (Option.bind (f_X11_mean N R3 I1 J2 (X (tn (i4 + (1 : Int32)))) (X (tn (i4 + (2 : Int32)))) (X (tn (i4 + (3 : Int32))))) fun v77 => (if ¬ ((i4 + (1 : Int32)) < 0 ∨ L ≤ tn (i4 + (1 : Int32))) then (if ¬ ((i4 + (2 : Int32)) < 0 ∨ L ≤ tn (i4 + (2 : Int32))) then (if ¬ ((i4 + (3 : Int32)) < 0 ∨ L ≤ tn (i4 + (3 : Int32))) then (Option.bind (f_X12_mean N v77.2.2.1 v77.1 v77.2.1 (X (tn (i4 + (1 : Int32)))) (X (tn (i4 + (2 : Int32)))) (X (tn (i4 + (3 : Int32))))) fun v81 => (if (v77.2.2.2 = v81.2) then f_L_law_18 N L X n v81.1 v77.2.1 v77.2.2.1 (i4 + (6 : Int32)) else some (Sum.inl (v81.1, v77.2.1, v77.2.2.1, (0 : Int32))))) else none) else none) else none)) else none) else none) else none) else (if ((X (tn i4)) &&& (31 : Int32)) = (12 : Int32) then (if ¬ ((i4 + (1 : Int32)) < 0 ∨ L ≤ tn (i4 + (1 : Int32))) then (if ¬ ((i4 + (2 : Int32)) < 0 ∨ L ≤ tn (i4 + (2 : Int32))) then (if ¬ ((i4 + (3 : Int32)) < 0 ∨ L ≤ tn (i4 + (3 : Int32))) then (if ¬ ((i4 + (4 : Int32)) < 0 ∨ L ≤ tn (i4 + (4 : Int32))) then (Option.bind (f_X11_told N R3 I1 J2 (X (tn (i4 + (1 : Int32)))) (X (tn (i4 + (2 : Int32)))) (X (tn (i4 + (3 : Int32)))) (X (tn (i4 + (4 : Int32))))) fun v86 => (if ¬ ((i4 + (1 : Int32)) < 0 ∨ L ≤ tn (i4 + (1 : Int32))) then (if ¬ ((i4 + (2 : Int32)) < 0 ∨ L ≤ tn (i4 + (2 : Int32))) then (if ¬ ((i4 + (3 : Int32)) < 0 ∨ L ≤ tn (i4 + (3 : Int32))) then (if ¬ ((i4 + (4 : Int32)) < 0 ∨ L ≤ tn (i4 + (4 : Int32))) then (Option.bind (f_X12_told N v86.2.2.1 v86.1 v86.2.1 (X (tn (i4 + (1 : Int32)))) (X (tn (i4 + (2 : Int32)))) (X (tn (i4 + (3 : Int32)))) (X (tn (i4 + (4 : Int32))))) fun v91 => (if (v86.2.2.2 = v91.2) then f_L_law_18 N L X n v91.1 v86.2.1 v86.2.2.1 (i4 + (6 : Int32)) else some (Sum.inl (v91.1, v86.2.1, v86.2.2.1, (0 : Int32))))) else none) else none) else none) else none)) else none) else none) else none) else none) else (if ((X (tn i4)) &&& (31 : Int32)) = (13 : Int32) then (if ¬ ((i4 + (1 : Int32)) < 0 ∨ L ≤ tn (i4 + (1 : Int32))) then (if ¬ ((i4 + (2 : Int32)) < 0 ∨ L ≤ tn (i4 + (2 : Int32))) then (Option.bind (f_X11_ends N R3 I1 J2 (X (tn (i4 + (1 : Int32)))) (X (tn (i4 + (2 : Int32))))) fun v94 => (if ¬ ((i4 + (1 : Int32)) < 0 ∨ L ≤ tn (i4 + (1 : Int32))) then (if ¬ ((i4 + (2 : Int32)) < 0 ∨ L ≤ tn (i4 + (2 : Int32))) then (Option.bind (f_X12_ends N v94.2.2.1 v94.1 v94.2.1 (X (tn (i4 + (1 : Int32)))) (X (tn (i4 + (2 : Int32))))) fun v97 => (if (v94.2.2.2 = v97.2) then f_L_law_18 N L X n v97.1 v94.2.1 v94.2.2.1 (i4 + (6 : Int32)) else some (Sum.inl (v97.1, v94.2.1, v94.2.2.1, (0 : Int32))))) else none) else none)) else none) else none) else (if ((X (tn i4)) &&& (31 : Int32)) = (14 : Int32) then (if ¬ ((i4 + (1 : Int32)) < 0 ∨ L ≤ tn (i4 + (1 : Int32))) then (Option.bind (f_X11_best N R3 I1 J2 (X (tn (i4 + (1 : Int32))))) fun v99 => (if ¬ ((i4 + (1 : Int32)) < 0 ∨ L ≤ tn (i4 + (1 : Int32))) then (Option.bind (f_X12_best N v99.2.2.1 v99.1 v99.2.1 (X (tn (i4 + (1 : Int32))))) fun v101 => (if (v99.2.2.2 = v101.2) then f_L_law_18 N L X n v101.1 v99.2.1 v99.2.2.1 (i4 + (6 : Int32)) else some (Sum.inl (v101.1, v99.2.1, v99.2.2.1, (0 : Int32))))) else none)) else none) else (if ((X (tn i4)) &&& (31 : Int32)) = (15 : Int32) then (if ¬ ((i4 + (1 : Int32)) < 0 ∨ L ≤ tn (i4 + (1 : Int32))) then (Option.bind (f_X11_rations N R3 I1 J2 (X (tn (i4 + (1 : Int32))))) fun v103 => (if ¬ ((i4 + (1 : Int32)) < 0 ∨ L ≤ tn (i4 + (1 : Int32))) then (Option.bind (f_X12_rations N v103.2.2.1 v103.1 v103.2.1 (X (tn (i4 + (1 : Int32))))) fun v105 => (if (v103.2.2.2 = v105.2) then f_L_law_18 N L X n v105.1 v103.2.1 v103.2.2.1 (i4 + (6 : Int32)) else some (Sum.inl (v105.1, v103.2.1, v103.2.2.1, (0 : Int32))))) else none)) else none) else (if ((X (tn i4)) &&& (31 : Int32)) = (16 : Int32) then (if ¬ ((i4 + (1 : Int32)) < 0 ∨ L ≤ tn (i4 + (1 : Int32))) then (if ¬ ((i4 + (2 : Int32)) < 0 ∨ L ≤ tn (i4 + (2 : Int32))) then (Option.bind (f_X11_take N R3 I1 J2 (X (tn (i4 + (1 : Int32)))) (X (tn (i4 + (2 : Int32))))) fun v108 => (if ¬ ((i4 + (1 : Int32)) < 0 ∨ L ≤ tn (i4 + (1 : Int32))) then (if ¬ ((i4 + (2 : Int32)) < 0 ∨ L ≤ tn (i4 + (2 : Int32))) then (Option.bind (f_X12_take N v108.2.2.1 v108.1 v108.2.1 (X (tn (i4 + (1 : Int32)))) (X (tn (i4 + (2 : Int32))))) fun v111 => (if (v108.2.2.2 = v111.2.2) then f_L_law_18 N L X n v111.1 v111.2.1 v108.2.2.1 (i4 + (6 : Int32)) else some (Sum.inl (v111.1, v111.2.1, v108.2.2.1, (0 : Int32))))) else none) else none)) else none) else none) else (if ((X (tn i4)) &&& (31 : Int32)) = (17 : Int32) then (if ¬ ((i4 + (1 : Int32)) < 0 ∨ L ≤ tn (i4 + (1 : Int32))) then (Option.bind (f_X11_takes N R3 I1 J2 (X (tn (i4 + (1 : Int32))))) fun v113 => (if ¬ ((i4 + (1 : Int32)) < 0 ∨ L ≤ tn (i4 + (1 : Int32))) then (Option.bind (f_X12_takes N v113.2.2.1 v113.1 v113.2.1 (X (tn (i4 + (1 : Int32))))) fun v115 => (if (v113.2.2.2 = v115.2.2) then f_L_law_18 N L X n v115.1 v115.2.1 v113.2.2.1 (i4 + (6 : Int32)) else some (Sum.inl (v115.1, v115.2.1, v113.2.2.1, (0 : Int32))))) else none)) else none) else (if ((X (tn i4)) &&& (31 : Int32)) = (18 : Int32) then (if ¬ ((i4 + (1 : Int32)) < 0 ∨ L ≤ tn (i4 + (1 : Int32))) then (if ¬ ((i4 + (2 : Int32)) < 0 ∨ L ≤ tn (i4 + (2 : Int32))) then (if ¬ ((i4 + (3 : Int32)) < 0 ∨ L ≤ tn (i4 + (3 : Int32))) then (if ¬ ((i4 + (4 : Int32)) < 0 ∨ L ≤ tn (i4 + (4 : Int32))) then (Option.bind (f_X11_hid N R3 I1 J2 (X (tn (i4 + (1 : Int32)))) (X (tn (i4 + (2 : Int32)))) (X (tn (i4 + (3 : Int32)))) (X (tn (i4 + (4 : Int32))))) fun v120 => (if ¬ ((i4 + (1 : Int32)) < 0 ∨ L ≤ tn (i4 + (1 : Int32))) then (if ¬ ((i4 + (2 : Int32)) < 0 ∨ L ≤ tn (i4 + (2 : Int32))) then (if ¬ ((i4 + (3 : Int32)) < 0 ∨ L ≤ tn (i4 + (3 : Int32))) then (if ¬ ((i4 + (4 : Int32)) < 0 ∨ L ≤ tn (i4 + (4 : Int32))) then (Option.bind (f_X12_hid N v120.2.2.1 v120.1 v120.2.1 (X (tn (i4 + (1 : Int32)))) (X (tn (i4 + (2 : Int32)))) (X (tn (i4 + (3 : Int32)))) (X (tn (i4 + (4 : Int32))))) fun v125 => (if (v120.2.2.2 = v125.2) then f_L_law_18 N L X n v125.1 v120.2.1 v120.2.2.1 (i4 + (6 : Int32)) else some (Sum.inl (v125.1, v120.2.1, v120.2.2.1, (0 : Int32))))) else none) else none) else none) else none)) else none) else none) else none) else none) else (if ((X (tn i4)) &&& (31 : Int32)) = (19 : Int32) then (if ¬ ((i4 + (1 : Int32)) < 0 ∨ L ≤ tn (i4 + (1 : Int32))) then (if ¬ ((i4 + (2 : Int32)) < 0 ∨ L ≤ tn (i4 + (2 : Int32))) then (if ¬ ((i4 + (3 : Int32)) < 0 ∨ L ≤ tn (i4 + (3 : Int32))) then (Option.bind (f_X11_judge N R3 I1 J2 (X (tn (i4 + (1 : Int32)))) (X (tn (i4 + (2 : Int32)))) (X (tn (i4 + (3 : Int32))))) fun v129 => (if ¬ ((i4 + (1 : Int32)) < 0 ∨ L ≤ tn (i4 + (1 : Int32))) then (if ¬ ((i4 + (2 : Int32)) < 0 ∨ L ≤ tn (i4 + (2 : Int32))) then (if ¬ ((i4 + (3 : Int32)) < 0 ∨ L ≤ tn (i4 + (3 : Int32))) then (Option.bind (f_X12_judge N v129.2.2.1 v129.1 v129.2.1 (X (tn (i4 + (1 : Int32)))) (X (tn (i4 + (2 : Int32)))) (X (tn (i4 + (3 : Int32))))) fun v133 => (if (v129.2.2.2 = v133.2) then f_L_law_18 N L X n v133.1 v129.2.1 v129.2.2.1 (i4 + (6 : Int32)) else some (Sum.inl (v133.1, v129.2.1, v129.2.2.1, (0 : Int32))))) else none) else none) else none)) else none) else none) else none) else (if ((X (tn i4)) &&& (31 : Int32)) = (20 : Int32) then (if ¬ ((i4 + (1 : Int32)) < 0 ∨ L ≤ tn (i4 + (1 : Int32))) then (if ¬ ((i4 + (2 : Int32)) < 0 ∨ L ≤ tn (i4 + (2 : Int32))) then (Option.bind (f_X11_until N R3 I1 J2 (X (tn (i4 + (1 : Int32)))) (X (tn (i4 + (2 : Int32))))) fun v136 => (if ¬ ((i4 + (1 : Int32)) < 0 ∨ L ≤ tn (i4 + (1 : Int32))) then (if ¬ ((i4 + (2 : Int32)) < 0 ∨ L ≤ tn (i4 + (2 : Int32))) then (Option.bind (f_X12_until N v136.2.2.1 v136.1 v136.2.1 (X (tn (i4 + (1 : Int32)))) (X (tn (i4 + (2 : Int32))))) fun v139 => (if (v136.2.2.2 = v139.2) then f_L_law_18 N L X n v139.1 v136.2.1 v136.2.2.1 (i4 + (6 : Int32)) else some (Sum.inl (v139.1, v136.2.1, v136.2.2.1, (0 : Int32))))) else none) else none)) else none) else none) else (if ((X (tn i4)) &&& (31 : Int32)) = (21 : Int32) then (Option.bind (f_X11_image N R3 I1 J2) fun v140 => (Option.bind (f_X12_image N v140.2.2.1 v140.1 v140.2.1) fun v141 => (if (v140.2.2.2 = v141.2) then f_L_law_18 N L X n v141.1 v140.2.1 v140.2.2.1 (i4 + (6 : Int32)) else some (Sum.inl (v141.1, v140.2.1, v140.2.2.1, (0 : Int32)))))) else (if ((X (tn i4)) &&& (31 : Int32)) = (22 : Int32) then (Option.bind (f_X11_back N R3 I1 J2) fun v142 => (Option.bind (f_X12_back N v142.2.1 v142.1 J2) fun v143 => (if (v142.2.2 = v143.2) then f_L_law_18 N L X n v143.1 J2 v142.2.1 (i4 + (6 : Int32)) else some (Sum.inl (v143.1, J2, v142.2.1, (0 : Int32)))))) else (if ((X (tn i4)) &&& (31 : Int32)) = (23 : Int32) then (if ¬ ((i4 + (1 : Int32)) < 0 ∨ L ≤ tn (i4 + (1 : Int32))) then (if ¬ ((i4 + (2 : Int32)) < 0 ∨ L ≤ tn (i4 + (2 : Int32))) then (if ¬ ((i4 + (3 : Int32)) < 0 ∨ L ≤ tn (i4 + (3 : Int32))) then (Option.bind (f_X11_sheet N R3 I1 J2 (X (tn (i4 + (1 : Int32)))) (X (tn (i4 + (2 : Int32)))) (X (tn (i4 + (3 : Int32))))) fun v147 => (if ¬ ((i4 + (1 : Int32)) < 0 ∨ L ≤ tn (i4 + (1 : Int32))) then (if ¬ ((i4 + (2 : Int32)) < 0 ∨ L ≤ tn (i4 + (2 : Int32))) then (if ¬ ((i4 + (3 : Int32)) < 0 ∨ L ≤ tn (i4 + (3 : Int32))) then (Option.bind (f_X12_sheet N R3 v147.1 J2 (X (tn (i4 + (1 : Int32)))) (X (tn (i4 + (2 : Int32)))) (X (tn (i4 + (3 : Int32))))) fun v151 => (if (v147.2 = v151.2) then f_L_law_18 N L X n v151.1 J2 R3 (i4 + (6 : Int32)) else some (Sum.inl (v151.1, J2, R3, (0 : Int32))))) else none) else none) else none)) else none) else none) else none) else (if ((X (tn i4)) &&& (31 : Int32)) = (24 : Int32) then (if ¬ ((i4 + (1 : Int32)) < 0 ∨ L ≤ tn (i4 + (1 : Int32))) then (if ¬ ((i4 + (2 : Int32)) < 0 ∨ L ≤ tn (i4 + (2 : Int32))) then (if ¬ ((i4 + (3 : Int32)) < 0 ∨ L ≤ tn (i4 + (3 : Int32))) then (Option.bind (f_X11_cell N R3 I1 J2 (X (tn (i4 + (1 : Int32)))) (X (tn (i4 + (2 : Int32)))) (X (tn (i4 + (3 : Int32))))) fun v155 => (if ¬ ((i4 + (1 : Int32)) < 0 ∨ L ≤ tn (i4 + (1 : Int32))) then (if ¬ ((i4 + (2 : Int32)) < 0 ∨ L ≤ tn (i4 + (2 : Int32))) then (if ¬ ((i4 + (3 : Int32)) < 0 ∨ L ≤ tn (i4 + (3 : Int32))) then (Option.bind (f_X12_cell N R3 v155.1 J2 (X (tn (i4 + (1 : Int32)))) (X (tn (i4 + (2 : Int32)))) (X (tn (i4 + (3 : Int32))))) fun v159 => (if (v155.2 = v159.2) then f_L_law_18 N L X n v159.1 J2 R3 (i4 + (6 : Int32)) else some (Sum.inl (v159.1, J2, R3, (0 : Int32))))) else none) else none) else none)) else none) else none) else none) else (if ((X (tn i4)) &&& (31 : Int32)) = (25 : Int32) then (if ¬ ((i4 + (1 : Int32)) < 0 ∨ L ≤ tn (i4 + (1 : Int32))) then (if ¬ ((i4 + (2 : Int32)) < 0 ∨ L ≤ tn (i4 + (2 : Int32))) then (if ¬ ((i4 + (3 : Int32)) < 0 ∨ L ≤ tn (i4 + (3 : Int32))) then (if ¬ ((i4 + (4 : Int32)) < 0 ∨ L ≤ tn (i4 + (4 : Int32))) then (if ¬ ((i4 + (5 : Int32)) < 0 ∨ L ≤ tn (i4 + (5 : Int32))) then (Option.bind (f_X11_copy N R3 I1 J2 (X (tn (i4 + (1 : Int32)))) (X (tn (i4 + (2 : Int32)))) (X (tn (i4 + (3 : Int32)))) (X (tn (i4 + (4 : Int32)))) (X (tn (i4 + (5 : Int32))))) fun v165 => (if ¬ ((i4 + (1 : Int32)) < 0 ∨ L ≤ tn (i4 + (1 : Int32))) then (if ¬ ((i4 + (2 : Int32)) < 0 ∨ L ≤ tn (i4 + (2 : Int32))) then (if ¬ ((i4 + (3 : Int32)) < 0 ∨ L ≤ tn (i4 + (3 : Int32))) then (if ¬ ((i4 + (4 : Int32)) < 0 ∨ L ≤ tn (i4 + (4 : Int32))) then (if ¬ ((i4 + (5 : Int32)) < 0 ∨ L ≤ tn (i4 + (5 : Int32))) then (Option.bind (f_X12_copy N R3 v165.1 J2 (X (tn (i4 + (1 : Int32)))) (X (tn (i4 + (2 : Int32)))) (X (tn (i4 + (3 : Int32)))) (X (tn (i4 + (4 : Int32)))) (X (tn (i4 + (5 : Int32))))) fun v171 => (if (v165.2 = v171.2) then f_L_law_18 N L X n v171.1 J2 R3 (i4 + (6 : Int32)) else some (Sum.inl (v171.1, J2, R3, (0 : Int32))))) else none) else none) else none) else none) else none)) else none) else none) else none) else none) else none) else (if ((X (tn i4)) &&& (31 : Int32)) = (26 : Int32) then (if ¬ ((i4 + (1 : Int32)) < 0 ∨ L ≤ tn (i4 + (1 : Int32))) then (if ¬ ((i4 + (2 : Int32)) < 0 ∨ L ≤ tn (i4 + (2 : Int32))) then (if ¬ ((i4 + (3 : Int32)) < 0 ∨ L ≤ tn (i4 + (3 : Int32))) then (if ¬ ((i4 + (4 : Int32)) < 0 ∨ L ≤ tn (i4 + (4 : Int32))) then (Option.bind (f_X11_men N R3 I1 J2 (X (tn (i4 + (1 : Int32)))) (X (tn (i4 + (2 : Int32)))) (X (tn (i4 + (3 : Int32)))) (X (tn (i4 + (4 : Int32))))) fun v176 => (if ¬ ((i4 + (1 : Int32)) < 0 ∨ L ≤ tn (i4 + (1 : Int32))) then (if ¬ ((i4 + (2 : Int32)) < 0 ∨ L ≤ tn (i4 + (2 : Int32))) then (if ¬ ((i4 + (3 : Int32)) < 0 ∨ L ≤ tn (i4 + (3 : Int32))) then (if ¬ ((i4 + (4 : Int32)) < 0 ∨ L ≤ tn (i4 + (4 : Int32))) then (Option.bind (f_X12_men N R3 v176.1 J2 (X (tn (i4 + (1 : Int32)))) (X (tn (i4 + (2 : Int32)))) (X (tn (i4 + (3 : Int32)))) (X (tn (i4 + (4 : Int32))))) fun v181 => (if (v176.2 = v181.2) then f_L_law_18 N L X n v181.1 J2 R3 (i4 + (6 : Int32)) else some (Sum.inl (v181.1, J2, R3, (0 : Int32))))) else none) else none) else none) else none)) else none) else none) else none) else none) else (if ((X (tn i4)) &&& (31 : Int32)) = (27 : Int32) then (if ¬ ((i4 + (1 : Int32)) < 0 ∨ L ≤ tn (i4 + (1 : Int32))) then (if ¬ ((i4 + (2 : Int32)) < 0 ∨ L ≤ tn (i4 + (2 : Int32))) then (Option.bind (f_X11_taken N R3 I1 J2 (X (tn (i4 + (1 : Int32)))) (X (tn (i4 + (2 : Int32))))) fun v184 => (if ¬ ((i4 + (1 : Int32)) < 0 ∨ L ≤ tn (i4 + (1 : Int32))) then (if ¬ ((i4 + (2 : Int32)) < 0 ∨ L ≤ tn (i4 + (2 : Int32))) then (Option.bind (f_X12_taken N R3 I1 J2 (X (tn (i4 + (1 : Int32)))) (X (tn (i4 + (2 : Int32))))) fun v187 => (if (v184 = v187) then f_L_law_18 N L X n I1 J2 R3 (i4 + (6 : Int32)) else some (Sum.inl (I1, J2, R3, (0 : Int32))))) else none) else none)) else none) else none) else f_L_law_18 N L X n I1 J2 R3 (i4 + (6 : Int32)))))))))))))))))))))))))))))) else none))
theorem l_L_law_18 {nm : String} {G : Gd} {d N : Nat} {K : Ah → Option Value → Prop} {L : Nat} {X : Nat → Int32}  (hL : G.2.2.2.2.1 = L) (hX : G.2.2.2.2.2 = X) {o : ((Nat → Nat → Int32) × (Nat → Nat → Int64) × (Rh) × Int32) ⊕ ((Nat → Nat → Int32) × (Nat → Nat → Int64) × (Rh))} : ∀ (n : Nat) (I1 : Nat → Nat → Int32) (J2 : Nat → Nat → Int64) (R3 : Rh) (i4 : Int32), Sh R3 → f_L_law_18 N L X n I1 J2 R3 i4 = some o → scase o (fun r => (Sh r.2.2.1 → K (r.1, r.2.1, r.2.2.1) (some (.int r.2.2.2)))) (fun o => (Sh o.2.2 → AW G (mL nm) (d + 75) 0 0 K 1183 [none, none, none, none] [] (o.1, o.2.1, o.2.2))) → AW G (mL nm) (d + 75) (6 * n) (163 * n) K 18 [some (.ref 25), some (.ref 32), some (.ref 89), some (.int i4)] [] (I1, J2, R3) := by
  intro n
  induction n with
  | zero => intro I1 J2 R3 i4 hs hf hE; rw [f_L_law_18.eq_1] at hf; cases hf
  | succ n ih =>
    intro I1 J2 R3 i4 hs hf hE
    rw [f_L_law_18.eq_2] at hf
    refine AW.iload_n dL_law_18 rfl ?_
    refine AW.aload_n dL_law_19 rfl ?_
    refine AW.scrLen (v := (Int32.ofNat L)) (by rw [hL]) dL_law_20 ?_
    refine AW.bipush (v := (6 : Int32)) dL_law_21 (by decide) ?_
    refine AW.isub dL_law_23 ?_
    refine AW.icmp_gt (tgt := 1183) dL_law_24 (by decide) (fun hc => ?_) (fun hc => ?_)
    · have hf := (if_pos hc).symm.trans hf
      obtain rfl := Option.some.inj hf
      exact AW.le (c' := 0) (n' := 0) (by omega) (by omega) (AW.weak _ (by exact trivial) ((show Sh R3 → _ from hE) hs))
    · have hf := (if_neg hc).symm.trans hf
      refine AW.aload_n dL_law_27 rfl ?_
      refine AW.iload_n dL_law_28 rfl ?_
      obtain ⟨h5, hf⟩ := gd_split hf
      refine AW.scr (x := (X (tn i4))) (by rw [hL]; exact h5) (by rw [hX]) dL_law_29 ?_
      refine AW.bipush (v := (31 : Int32)) dL_law_30 (by decide) ?_
      refine AW.iand dL_law_32 ?_
      by_cases hc0 : ((X (tn i4)) &&& (31 : Int32)) = (0 : Int32)
      · have hf := (if_pos hc0).symm.trans hf
        refine AW.swIn (tgt := 160) dL_law_33 (by rw [hc0]; decide) (by rw [hc0]; decide) (by rw [hc0]; rfl) (by decide) ?_
        refine AW.aload_n dL_law_160 rfl ?_
        refine AW.aload_n dL_law_161 rfl ?_
        refine AW.iload_n dL_law_162 rfl ?_
        refine AW.iconst (v := (1 : Int32)) dL_law_163 (by decide) ?_
        refine AW.iadd dL_law_164 ?_
        obtain ⟨h6, hf⟩ := gd_split hf
        refine AW.scr (x := (X (tn (i4 + (1 : Int32))))) (by rw [hL]; exact h6) (by rw [hX]) dL_law_165 ?_
        refine AW.aload_n dL_law_166 rfl ?_
        refine AW.iload_n dL_law_167 rfl ?_
        refine AW.iconst (v := (2 : Int32)) dL_law_168 (by decide) ?_
        refine AW.iadd dL_law_169 ?_
        obtain ⟨h7, hf⟩ := gd_split hf
        refine AW.scr (x := (X (tn (i4 + (2 : Int32))))) (by rw [hL]; exact h7) (by rw [hX]) dL_law_170 ?_
        obtain ⟨v8, gv8, hf⟩ := ob_split hf
        refine TW.invv (as := [.int (X (tn (i4 + (1 : Int32)))), .int (X (tn (i4 + (2 : Int32))))]) (rest := []) viL_13_11 hs.k32 dL_law_171 rfl rfl (Nat.le_of_ble_eq_true rfl) (c_X11_man hs gv8 ?_)
        show AW G (mL nm) (d + 75) (6 * (n + 1)) (163 * (n + 1)) K 174 [some (.ref 25), some (.ref 32), some (.ref 89), some (.int i4)] [.int v8.2] (v8.1, J2, R3)
        refine AW.aload_n dL_law_174 rfl ?_
        refine AW.aload_n dL_law_175 rfl ?_
        refine AW.iload_n dL_law_176 rfl ?_
        refine AW.iconst (v := (1 : Int32)) dL_law_177 (by decide) ?_
        refine AW.iadd dL_law_178 ?_
        obtain ⟨h9, hf⟩ := gd_split hf
        refine AW.scr (x := (X (tn (i4 + (1 : Int32))))) (by rw [hL]; exact h9) (by rw [hX]) dL_law_179 ?_
        refine AW.aload_n dL_law_180 rfl ?_
        refine AW.iload_n dL_law_181 rfl ?_
        refine AW.iconst (v := (2 : Int32)) dL_law_182 (by decide) ?_
        refine AW.iadd dL_law_183 ?_
        obtain ⟨h10, hf⟩ := gd_split hf
        refine AW.scr (x := (X (tn (i4 + (2 : Int32))))) (by rw [hL]; exact h10) (by rw [hX]) dL_law_184 ?_
        obtain ⟨v11, gv11, hf⟩ := ob_split hf
        refine TW.invv (as := [.int (X (tn (i4 + (1 : Int32)))), .int (X (tn (i4 + (2 : Int32))))]) (rest := [.int v8.2]) viL_17_12 hs.k89 dL_law_185 rfl rfl (Nat.le_of_ble_eq_true rfl) (c_X12_man hs gv11 ?_)
        show AW G (mL nm) (d + 75) (6 * (n + 1)) (163 * (n + 1)) K 188 [some (.ref 25), some (.ref 32), some (.ref 89), some (.int i4)] [.int v11.2, .int v8.2] (v11.1, J2, R3)
        refine AW.icmp_eq (tgt := 1177) dL_law_188 (by decide) (fun hc => ?_) (fun hc => ?_)
        · have hf := (if_pos hc).symm.trans hf
          refine AW.iinc (v := (i4 + (6 : Int32))) (ls' := [some (.ref 25), some (.ref 32), some (.ref 89), some (.int (i4 + (6 : Int32)))]) dL_law_1177 rfl rfl (Nat.le_of_ble_eq_true rfl) rfl ?_
          refine AW.goto (tgt := 18) dL_law_1180 (by decide) ?_
          exact AW.le (c' := 6 * n) (n' := 163 * n) (by omega) (by omega) (AW.weak _ (by exact (And.intro rfl (And.intro rfl (And.intro rfl (And.intro rfl trivial))))) (ih v11.1 J2 R3 (i4 + (6 : Int32)) hs hf hE))
        · have hf := (if_neg hc).symm.trans hf
          refine AW.iconst (v := (0 : Int32)) dL_law_191 (by decide) ?_
          obtain rfl := Option.some.inj hf
          exact AW.zret (st := []) dL_law_192 rfl (Or.inl rfl) ((show Sh R3 → _ from hE) hs)
      have hf := (if_neg hc0).symm.trans hf
      by_cases hc1 : ((X (tn i4)) &&& (31 : Int32)) = (1 : Int32)
      · have hf := (if_pos hc1).symm.trans hf
        refine AW.swIn (tgt := 193) dL_law_33 (by rw [hc1]; decide) (by rw [hc1]; decide) (by rw [hc1]; rfl) (by decide) ?_
        refine AW.aload_n dL_law_193 rfl ?_
        refine AW.aload_n dL_law_194 rfl ?_
        refine AW.iload_n dL_law_195 rfl ?_
        refine AW.iconst (v := (1 : Int32)) dL_law_196 (by decide) ?_
        refine AW.iadd dL_law_197 ?_
        obtain ⟨h12, hf⟩ := gd_split hf
        refine AW.scr (x := (X (tn (i4 + (1 : Int32))))) (by rw [hL]; exact h12) (by rw [hX]) dL_law_198 ?_
        refine AW.aload_n dL_law_199 rfl ?_
        refine AW.iload_n dL_law_200 rfl ?_
        refine AW.iconst (v := (2 : Int32)) dL_law_201 (by decide) ?_
        refine AW.iadd dL_law_202 ?_
        obtain ⟨h13, hf⟩ := gd_split hf
        refine AW.scr (x := (X (tn (i4 + (2 : Int32))))) (by rw [hL]; exact h13) (by rw [hX]) dL_law_203 ?_
        refine AW.aload_n dL_law_204 rfl ?_
        refine AW.iload_n dL_law_205 rfl ?_
        refine AW.iconst (v := (3 : Int32)) dL_law_206 (by decide) ?_
        refine AW.iadd dL_law_207 ?_
        obtain ⟨h14, hf⟩ := gd_split hf
        refine AW.scr (x := (X (tn (i4 + (3 : Int32))))) (by rw [hL]; exact h14) (by rw [hX]) dL_law_208 ?_
        obtain ⟨v15, gv15, hf⟩ := ob_split hf
        refine TW.invv (as := [.int (X (tn (i4 + (1 : Int32)))), .int (X (tn (i4 + (2 : Int32)))), .int (X (tn (i4 + (3 : Int32))))]) (rest := []) viL_18_11 hs.k32 dL_law_209 rfl rfl (Nat.le_of_ble_eq_true rfl) (c_X11_set hs gv15 ?_)
        show AW G (mL nm) (d + 75) (6 * (n + 1)) (163 * (n + 1)) K 212 [some (.ref 25), some (.ref 32), some (.ref 89), some (.int i4)] [.int v15.2] (v15.1, J2, R3)
        refine AW.aload_n dL_law_212 rfl ?_
        refine AW.aload_n dL_law_213 rfl ?_
        refine AW.iload_n dL_law_214 rfl ?_
        refine AW.iconst (v := (1 : Int32)) dL_law_215 (by decide) ?_
        refine AW.iadd dL_law_216 ?_
        obtain ⟨h16, hf⟩ := gd_split hf
        refine AW.scr (x := (X (tn (i4 + (1 : Int32))))) (by rw [hL]; exact h16) (by rw [hX]) dL_law_217 ?_
        refine AW.aload_n dL_law_218 rfl ?_
        refine AW.iload_n dL_law_219 rfl ?_
        refine AW.iconst (v := (2 : Int32)) dL_law_220 (by decide) ?_
        refine AW.iadd dL_law_221 ?_
        obtain ⟨h17, hf⟩ := gd_split hf
        refine AW.scr (x := (X (tn (i4 + (2 : Int32))))) (by rw [hL]; exact h17) (by rw [hX]) dL_law_222 ?_
        refine AW.aload_n dL_law_223 rfl ?_
        refine AW.iload_n dL_law_224 rfl ?_
        refine AW.iconst (v := (3 : Int32)) dL_law_225 (by decide) ?_
        refine AW.iadd dL_law_226 ?_
        obtain ⟨h18, hf⟩ := gd_split hf
        refine AW.scr (x := (X (tn (i4 + (3 : Int32))))) (by rw [hL]; exact h18) (by rw [hX]) dL_law_227 ?_
        obtain ⟨v19, gv19, hf⟩ := ob_split hf
        refine TW.invv (as := [.int (X (tn (i4 + (1 : Int32)))), .int (X (tn (i4 + (2 : Int32)))), .int (X (tn (i4 + (3 : Int32))))]) (rest := [.int v15.2]) viL_22_12 hs.k89 dL_law_228 rfl rfl (Nat.le_of_ble_eq_true rfl) (c_X12_set hs gv19 ?_)
        show AW G (mL nm) (d + 75) (6 * (n + 1)) (163 * (n + 1)) K 231 [some (.ref 25), some (.ref 32), some (.ref 89), some (.int i4)] [.int v19.2, .int v15.2] (v19.1, J2, R3)
        refine AW.icmp_eq (tgt := 1177) dL_law_231 (by decide) (fun hc => ?_) (fun hc => ?_)
        · have hf := (if_pos hc).symm.trans hf
          refine AW.iinc (v := (i4 + (6 : Int32))) (ls' := [some (.ref 25), some (.ref 32), some (.ref 89), some (.int (i4 + (6 : Int32)))]) dL_law_1177 rfl rfl (Nat.le_of_ble_eq_true rfl) rfl ?_
          refine AW.goto (tgt := 18) dL_law_1180 (by decide) ?_
          exact AW.le (c' := 6 * n) (n' := 163 * n) (by omega) (by omega) (AW.weak _ (by exact (And.intro rfl (And.intro rfl (And.intro rfl (And.intro rfl trivial))))) (ih v19.1 J2 R3 (i4 + (6 : Int32)) hs hf hE))
        · have hf := (if_neg hc).symm.trans hf
          refine AW.iconst (v := (0 : Int32)) dL_law_234 (by decide) ?_
          obtain rfl := Option.some.inj hf
          exact AW.zret (st := []) dL_law_235 rfl (Or.inl rfl) ((show Sh R3 → _ from hE) hs)
      have hf := (if_neg hc1).symm.trans hf
      by_cases hc2 : ((X (tn i4)) &&& (31 : Int32)) = (2 : Int32)
      · have hf := (if_pos hc2).symm.trans hf
        refine AW.swIn (tgt := 236) dL_law_33 (by rw [hc2]; decide) (by rw [hc2]; decide) (by rw [hc2]; rfl) (by decide) ?_
        refine AW.aload_n dL_law_236 rfl ?_
        refine AW.aload_n dL_law_237 rfl ?_
        refine AW.iload_n dL_law_238 rfl ?_
        refine AW.iconst (v := (1 : Int32)) dL_law_239 (by decide) ?_
        refine AW.iadd dL_law_240 ?_
        obtain ⟨h20, hf⟩ := gd_split hf
        refine AW.scr (x := (X (tn (i4 + (1 : Int32))))) (by rw [hL]; exact h20) (by rw [hX]) dL_law_241 ?_
        refine AW.aload_n dL_law_242 rfl ?_
        refine AW.iload_n dL_law_243 rfl ?_
        refine AW.iconst (v := (2 : Int32)) dL_law_244 (by decide) ?_
        refine AW.iadd dL_law_245 ?_
        obtain ⟨h21, hf⟩ := gd_split hf
        refine AW.scr (x := (X (tn (i4 + (2 : Int32))))) (by rw [hL]; exact h21) (by rw [hX]) dL_law_246 ?_
        obtain ⟨v22, gv22, hf⟩ := ob_split hf
        refine TW.invv (as := [.int (X (tn (i4 + (1 : Int32)))), .int (X (tn (i4 + (2 : Int32))))]) (rest := []) viL_23_11 hs.k32 dL_law_247 rfl rfl (Nat.le_of_ble_eq_true rfl) (c_X11_boat hs gv22 ?_)
        show AW G (mL nm) (d + 75) (6 * (n + 1)) (163 * (n + 1)) K 250 [some (.ref 25), some (.ref 32), some (.ref 89), some (.int i4)] [.int v22.2] (v22.1, J2, R3)
        refine AW.aload_n dL_law_250 rfl ?_
        refine AW.aload_n dL_law_251 rfl ?_
        refine AW.iload_n dL_law_252 rfl ?_
        refine AW.iconst (v := (1 : Int32)) dL_law_253 (by decide) ?_
        refine AW.iadd dL_law_254 ?_
        obtain ⟨h23, hf⟩ := gd_split hf
        refine AW.scr (x := (X (tn (i4 + (1 : Int32))))) (by rw [hL]; exact h23) (by rw [hX]) dL_law_255 ?_
        refine AW.aload_n dL_law_256 rfl ?_
        refine AW.iload_n dL_law_257 rfl ?_
        refine AW.iconst (v := (2 : Int32)) dL_law_258 (by decide) ?_
        refine AW.iadd dL_law_259 ?_
        obtain ⟨h24, hf⟩ := gd_split hf
        refine AW.scr (x := (X (tn (i4 + (2 : Int32))))) (by rw [hL]; exact h24) (by rw [hX]) dL_law_260 ?_
        obtain ⟨v25, gv25, hf⟩ := ob_split hf
        refine TW.invv (as := [.int (X (tn (i4 + (1 : Int32)))), .int (X (tn (i4 + (2 : Int32))))]) (rest := [.int v22.2]) viL_26_12 hs.k89 dL_law_261 rfl rfl (Nat.le_of_ble_eq_true rfl) (c_X12_boat hs gv25 ?_)
        show AW G (mL nm) (d + 75) (6 * (n + 1)) (163 * (n + 1)) K 264 [some (.ref 25), some (.ref 32), some (.ref 89), some (.int i4)] [.int v25.2, .int v22.2] (v25.1, J2, R3)
        refine AW.icmp_eq (tgt := 1177) dL_law_264 (by decide) (fun hc => ?_) (fun hc => ?_)
        · have hf := (if_pos hc).symm.trans hf
          refine AW.iinc (v := (i4 + (6 : Int32))) (ls' := [some (.ref 25), some (.ref 32), some (.ref 89), some (.int (i4 + (6 : Int32)))]) dL_law_1177 rfl rfl (Nat.le_of_ble_eq_true rfl) rfl ?_
          refine AW.goto (tgt := 18) dL_law_1180 (by decide) ?_
          exact AW.le (c' := 6 * n) (n' := 163 * n) (by omega) (by omega) (AW.weak _ (by exact (And.intro rfl (And.intro rfl (And.intro rfl (And.intro rfl trivial))))) (ih v25.1 J2 R3 (i4 + (6 : Int32)) hs hf hE))
        · have hf := (if_neg hc).symm.trans hf
          refine AW.iconst (v := (0 : Int32)) dL_law_267 (by decide) ?_
          obtain rfl := Option.some.inj hf
          exact AW.zret (st := []) dL_law_268 rfl (Or.inl rfl) ((show Sh R3 → _ from hE) hs)
      have hf := (if_neg hc2).symm.trans hf
      by_cases hc3 : ((X (tn i4)) &&& (31 : Int32)) = (3 : Int32)
      · have hf := (if_pos hc3).symm.trans hf
        refine AW.swIn (tgt := 269) dL_law_33 (by rw [hc3]; decide) (by rw [hc3]; decide) (by rw [hc3]; rfl) (by decide) ?_
        refine AW.aload_n dL_law_269 rfl ?_
        refine AW.aload_n dL_law_270 rfl ?_
        refine AW.iload_n dL_law_271 rfl ?_
        refine AW.iconst (v := (1 : Int32)) dL_law_272 (by decide) ?_
        refine AW.iadd dL_law_273 ?_
        obtain ⟨h26, hf⟩ := gd_split hf
        refine AW.scr (x := (X (tn (i4 + (1 : Int32))))) (by rw [hL]; exact h26) (by rw [hX]) dL_law_274 ?_
        refine AW.aload_n dL_law_275 rfl ?_
        refine AW.iload_n dL_law_276 rfl ?_
        refine AW.iconst (v := (2 : Int32)) dL_law_277 (by decide) ?_
        refine AW.iadd dL_law_278 ?_
        obtain ⟨h27, hf⟩ := gd_split hf
        refine AW.scr (x := (X (tn (i4 + (2 : Int32))))) (by rw [hL]; exact h27) (by rw [hX]) dL_law_279 ?_
        refine AW.aload_n dL_law_280 rfl ?_
        refine AW.iload_n dL_law_281 rfl ?_
        refine AW.iconst (v := (3 : Int32)) dL_law_282 (by decide) ?_
        refine AW.iadd dL_law_283 ?_
        obtain ⟨h28, hf⟩ := gd_split hf
        refine AW.scr (x := (X (tn (i4 + (3 : Int32))))) (by rw [hL]; exact h28) (by rw [hX]) dL_law_284 ?_
        obtain ⟨v29, gv29, hf⟩ := ob_split hf
        refine TW.invv (as := [.int (X (tn (i4 + (1 : Int32)))), .int (X (tn (i4 + (2 : Int32)))), .int (X (tn (i4 + (3 : Int32))))]) (rest := []) viL_27_11 hs.k32 dL_law_285 rfl rfl (Nat.le_of_ble_eq_true rfl) (c_X11_day hs gv29 ?_)
        show AW G (mL nm) (d + 75) (6 * (n + 1)) (163 * (n + 1)) K 288 [some (.ref 25), some (.ref 32), some (.ref 89), some (.int i4)] [.int v29.2] (v29.1, J2, R3)
        refine AW.aload_n dL_law_288 rfl ?_
        refine AW.aload_n dL_law_289 rfl ?_
        refine AW.iload_n dL_law_290 rfl ?_
        refine AW.iconst (v := (1 : Int32)) dL_law_291 (by decide) ?_
        refine AW.iadd dL_law_292 ?_
        obtain ⟨h30, hf⟩ := gd_split hf
        refine AW.scr (x := (X (tn (i4 + (1 : Int32))))) (by rw [hL]; exact h30) (by rw [hX]) dL_law_293 ?_
        refine AW.aload_n dL_law_294 rfl ?_
        refine AW.iload_n dL_law_295 rfl ?_
        refine AW.iconst (v := (2 : Int32)) dL_law_296 (by decide) ?_
        refine AW.iadd dL_law_297 ?_
        obtain ⟨h31, hf⟩ := gd_split hf
        refine AW.scr (x := (X (tn (i4 + (2 : Int32))))) (by rw [hL]; exact h31) (by rw [hX]) dL_law_298 ?_
        refine AW.aload_n dL_law_299 rfl ?_
        refine AW.iload_n dL_law_300 rfl ?_
        refine AW.iconst (v := (3 : Int32)) dL_law_301 (by decide) ?_
        refine AW.iadd dL_law_302 ?_
        obtain ⟨h32, hf⟩ := gd_split hf
        refine AW.scr (x := (X (tn (i4 + (3 : Int32))))) (by rw [hL]; exact h32) (by rw [hX]) dL_law_303 ?_
        obtain ⟨v33, gv33, hf⟩ := ob_split hf
        refine TW.invv (as := [.int (X (tn (i4 + (1 : Int32)))), .int (X (tn (i4 + (2 : Int32)))), .int (X (tn (i4 + (3 : Int32))))]) (rest := [.int v29.2]) viL_30_12 hs.k89 dL_law_304 rfl rfl (Nat.le_of_ble_eq_true rfl) (c_X12_day hs gv33 ?_)
        show AW G (mL nm) (d + 75) (6 * (n + 1)) (163 * (n + 1)) K 307 [some (.ref 25), some (.ref 32), some (.ref 89), some (.int i4)] [.int v33.2, .int v29.2] (v33.1, J2, R3)
        refine AW.icmp_eq (tgt := 1177) dL_law_307 (by decide) (fun hc => ?_) (fun hc => ?_)
        · have hf := (if_pos hc).symm.trans hf
          refine AW.iinc (v := (i4 + (6 : Int32))) (ls' := [some (.ref 25), some (.ref 32), some (.ref 89), some (.int (i4 + (6 : Int32)))]) dL_law_1177 rfl rfl (Nat.le_of_ble_eq_true rfl) rfl ?_
          refine AW.goto (tgt := 18) dL_law_1180 (by decide) ?_
          exact AW.le (c' := 6 * n) (n' := 163 * n) (by omega) (by omega) (AW.weak _ (by exact (And.intro rfl (And.intro rfl (And.intro rfl (And.intro rfl trivial))))) (ih v33.1 J2 R3 (i4 + (6 : Int32)) hs hf hE))
        · have hf := (if_neg hc).symm.trans hf
          refine AW.iconst (v := (0 : Int32)) dL_law_310 (by decide) ?_
          obtain rfl := Option.some.inj hf
          exact AW.zret (st := []) dL_law_311 rfl (Or.inl rfl) ((show Sh R3 → _ from hE) hs)
      have hf := (if_neg hc3).symm.trans hf
      by_cases hc4 : ((X (tn i4)) &&& (31 : Int32)) = (4 : Int32)
      · have hf := (if_pos hc4).symm.trans hf
        refine AW.swIn (tgt := 312) dL_law_33 (by rw [hc4]; decide) (by rw [hc4]; decide) (by rw [hc4]; rfl) (by decide) ?_
        refine AW.aload_n dL_law_312 rfl ?_
        refine AW.aload_n dL_law_313 rfl ?_
        refine AW.iload_n dL_law_314 rfl ?_
        refine AW.iconst (v := (1 : Int32)) dL_law_315 (by decide) ?_
        refine AW.iadd dL_law_316 ?_
        obtain ⟨h34, hf⟩ := gd_split hf
        refine AW.scr (x := (X (tn (i4 + (1 : Int32))))) (by rw [hL]; exact h34) (by rw [hX]) dL_law_317 ?_
        obtain ⟨v35, gv35, hf⟩ := ob_split hf
        refine TW.invv (as := [.int (X (tn (i4 + (1 : Int32))))]) (rest := []) viL_31_11 hs.k32 dL_law_318 rfl rfl (Nat.le_of_ble_eq_true rfl) (c_X11_boatTold hs gv35 ?_)
        show AW G (mL nm) (d + 75) (6 * (n + 1)) (163 * (n + 1)) K 321 [some (.ref 25), some (.ref 32), some (.ref 89), some (.int i4)] [.int v35] (I1, J2, R3)
        refine AW.aload_n dL_law_321 rfl ?_
        refine AW.aload_n dL_law_322 rfl ?_
        refine AW.iload_n dL_law_323 rfl ?_
        refine AW.iconst (v := (1 : Int32)) dL_law_324 (by decide) ?_
        refine AW.iadd dL_law_325 ?_
        obtain ⟨h36, hf⟩ := gd_split hf
        refine AW.scr (x := (X (tn (i4 + (1 : Int32))))) (by rw [hL]; exact h36) (by rw [hX]) dL_law_326 ?_
        obtain ⟨v37, gv37, hf⟩ := ob_split hf
        refine TW.invv (as := [.int (X (tn (i4 + (1 : Int32))))]) (rest := [.int v35]) viL_35_12 hs.k89 dL_law_327 rfl rfl (Nat.le_of_ble_eq_true rfl) (c_X12_boatTold hs gv37 ?_)
        show AW G (mL nm) (d + 75) (6 * (n + 1)) (163 * (n + 1)) K 330 [some (.ref 25), some (.ref 32), some (.ref 89), some (.int i4)] [.int v37, .int v35] (I1, J2, R3)
        refine AW.icmp_eq (tgt := 1177) dL_law_330 (by decide) (fun hc => ?_) (fun hc => ?_)
        · have hf := (if_pos hc).symm.trans hf
          refine AW.iinc (v := (i4 + (6 : Int32))) (ls' := [some (.ref 25), some (.ref 32), some (.ref 89), some (.int (i4 + (6 : Int32)))]) dL_law_1177 rfl rfl (Nat.le_of_ble_eq_true rfl) rfl ?_
          refine AW.goto (tgt := 18) dL_law_1180 (by decide) ?_
          exact AW.le (c' := 6 * n) (n' := 163 * n) (by omega) (by omega) (AW.weak _ (by exact (And.intro rfl (And.intro rfl (And.intro rfl (And.intro rfl trivial))))) (ih I1 J2 R3 (i4 + (6 : Int32)) hs hf hE))
        · have hf := (if_neg hc).symm.trans hf
          refine AW.iconst (v := (0 : Int32)) dL_law_333 (by decide) ?_
          obtain rfl := Option.some.inj hf
          exact AW.zret (st := []) dL_law_334 rfl (Or.inl rfl) ((show Sh R3 → _ from hE) hs)
      have hf := (if_neg hc4).symm.trans hf
      by_cases hc5 : ((X (tn i4)) &&& (31 : Int32)) = (5 : Int32)
      · have hf := (if_pos hc5).symm.trans hf
        refine AW.swIn (tgt := 335) dL_law_33 (by rw [hc5]; decide) (by rw [hc5]; decide) (by rw [hc5]; rfl) (by decide) ?_
        refine AW.aload_n dL_law_335 rfl ?_
        refine AW.aload_n dL_law_336 rfl ?_
        refine AW.iload_n dL_law_337 rfl ?_
        refine AW.iconst (v := (1 : Int32)) dL_law_338 (by decide) ?_
        refine AW.iadd dL_law_339 ?_
        obtain ⟨h38, hf⟩ := gd_split hf
        refine AW.scr (x := (X (tn (i4 + (1 : Int32))))) (by rw [hL]; exact h38) (by rw [hX]) dL_law_340 ?_
        refine AW.aload_n dL_law_341 rfl ?_
        refine AW.iload_n dL_law_342 rfl ?_
        refine AW.iconst (v := (2 : Int32)) dL_law_343 (by decide) ?_
        refine AW.iadd dL_law_344 ?_
        obtain ⟨h39, hf⟩ := gd_split hf
        refine AW.scr (x := (X (tn (i4 + (2 : Int32))))) (by rw [hL]; exact h39) (by rw [hX]) dL_law_345 ?_
        refine AW.aload_n dL_law_346 rfl ?_
        refine AW.iload_n dL_law_347 rfl ?_
        refine AW.iconst (v := (3 : Int32)) dL_law_348 (by decide) ?_
        refine AW.iadd dL_law_349 ?_
        obtain ⟨h40, hf⟩ := gd_split hf
        refine AW.scr (x := (X (tn (i4 + (3 : Int32))))) (by rw [hL]; exact h40) (by rw [hX]) dL_law_350 ?_
        obtain ⟨v41, gv41, hf⟩ := ob_split hf
        refine AW.le (c' := 2 + 6 * n) (n' := 11 + 163 * n) (by omega) (by omega) ?_
        refine AW.invv (c1 := 2) (n1 := 11) (c := 6 * n) (n := 163 * n) (as := [.int (X (tn (i4 + (1 : Int32)))), .int (X (tn (i4 + (2 : Int32)))), .int (X (tn (i4 + (3 : Int32))))]) (rest := []) viL_36_11 hs.k32 dL_law_351 rfl rfl (Nat.le_of_ble_eq_true rfl) (c_X11_rule hs gv41 (fun hs => ?_))
        show AW G (mL nm) (d + 75) (6 * n) (163 * n) K 354 [some (.ref 25), some (.ref 32), some (.ref 89), some (.int i4)] [.int v41.2.2.2] (v41.1, v41.2.1, v41.2.2.1)
        refine AW.aload_n dL_law_354 rfl ?_
        refine AW.aload_n dL_law_355 rfl ?_
        refine AW.iload_n dL_law_356 rfl ?_
        refine AW.iconst (v := (1 : Int32)) dL_law_357 (by decide) ?_
        refine AW.iadd dL_law_358 ?_
        obtain ⟨h42, hf⟩ := gd_split hf
        refine AW.scr (x := (X (tn (i4 + (1 : Int32))))) (by rw [hL]; exact h42) (by rw [hX]) dL_law_359 ?_
        refine AW.aload_n dL_law_360 rfl ?_
        refine AW.iload_n dL_law_361 rfl ?_
        refine AW.iconst (v := (2 : Int32)) dL_law_362 (by decide) ?_
        refine AW.iadd dL_law_363 ?_
        obtain ⟨h43, hf⟩ := gd_split hf
        refine AW.scr (x := (X (tn (i4 + (2 : Int32))))) (by rw [hL]; exact h43) (by rw [hX]) dL_law_364 ?_
        refine AW.aload_n dL_law_365 rfl ?_
        refine AW.iload_n dL_law_366 rfl ?_
        refine AW.iconst (v := (3 : Int32)) dL_law_367 (by decide) ?_
        refine AW.iadd dL_law_368 ?_
        obtain ⟨h44, hf⟩ := gd_split hf
        refine AW.scr (x := (X (tn (i4 + (3 : Int32))))) (by rw [hL]; exact h44) (by rw [hX]) dL_law_369 ?_
        obtain ⟨v45, gv45, hf⟩ := ob_split hf
        refine TW.invv (as := [.int (X (tn (i4 + (1 : Int32)))), .int (X (tn (i4 + (2 : Int32)))), .int (X (tn (i4 + (3 : Int32))))]) (rest := [.int v41.2.2.2]) viL_39_12 hs.k89 dL_law_370 rfl rfl (Nat.le_of_ble_eq_true rfl) (c_X12_rule hs gv45 ?_)
        show AW G (mL nm) (d + 75) (6 * n) (163 * n) K 373 [some (.ref 25), some (.ref 32), some (.ref 89), some (.int i4)] [.int v45.2, .int v41.2.2.2] (v45.1, v41.2.1, v41.2.2.1)
        refine AW.icmp_eq (tgt := 1177) dL_law_373 (by decide) (fun hc => ?_) (fun hc => ?_)
        · have hf := (if_pos hc).symm.trans hf
          refine AW.iinc (v := (i4 + (6 : Int32))) (ls' := [some (.ref 25), some (.ref 32), some (.ref 89), some (.int (i4 + (6 : Int32)))]) dL_law_1177 rfl rfl (Nat.le_of_ble_eq_true rfl) rfl ?_
          refine AW.goto (tgt := 18) dL_law_1180 (by decide) ?_
          exact AW.le (c' := 6 * n) (n' := 163 * n) (by omega) (by omega) (AW.weak _ (by exact (And.intro rfl (And.intro rfl (And.intro rfl (And.intro rfl trivial))))) (ih v45.1 v41.2.1 v41.2.2.1 (i4 + (6 : Int32)) hs hf hE))
        · have hf := (if_neg hc).symm.trans hf
          refine AW.iconst (v := (0 : Int32)) dL_law_376 (by decide) ?_
          obtain rfl := Option.some.inj hf
          exact AW.zret (st := []) dL_law_377 rfl (Or.inl rfl) ((show Sh v41.2.2.1 → _ from hE) hs)
      have hf := (if_neg hc5).symm.trans hf
      by_cases hc6 : ((X (tn i4)) &&& (31 : Int32)) = (6 : Int32)
      · have hf := (if_pos hc6).symm.trans hf
        refine AW.swIn (tgt := 378) dL_law_33 (by rw [hc6]; decide) (by rw [hc6]; decide) (by rw [hc6]; rfl) (by decide) ?_
        refine AW.aload_n dL_law_378 rfl ?_
        refine AW.aload_n dL_law_379 rfl ?_
        refine AW.iload_n dL_law_380 rfl ?_
        refine AW.iconst (v := (1 : Int32)) dL_law_381 (by decide) ?_
        refine AW.iadd dL_law_382 ?_
        obtain ⟨h46, hf⟩ := gd_split hf
        refine AW.scr (x := (X (tn (i4 + (1 : Int32))))) (by rw [hL]; exact h46) (by rw [hX]) dL_law_383 ?_
        refine AW.aload_n dL_law_384 rfl ?_
        refine AW.iload_n dL_law_385 rfl ?_
        refine AW.iconst (v := (2 : Int32)) dL_law_386 (by decide) ?_
        refine AW.iadd dL_law_387 ?_
        obtain ⟨h47, hf⟩ := gd_split hf
        refine AW.scr (x := (X (tn (i4 + (2 : Int32))))) (by rw [hL]; exact h47) (by rw [hX]) dL_law_388 ?_
        obtain ⟨v48, gv48, hf⟩ := ob_split hf
        refine TW.invv (as := [.int (X (tn (i4 + (1 : Int32)))), .int (X (tn (i4 + (2 : Int32))))]) (rest := []) viL_40_11 hs.k32 dL_law_389 rfl rfl (Nat.le_of_ble_eq_true rfl) (c_X11_ruleTold hs gv48 ?_)
        show AW G (mL nm) (d + 75) (6 * (n + 1)) (163 * (n + 1)) K 392 [some (.ref 25), some (.ref 32), some (.ref 89), some (.int i4)] [.int v48] (I1, J2, R3)
        refine AW.aload_n dL_law_392 rfl ?_
        refine AW.aload_n dL_law_393 rfl ?_
        refine AW.iload_n dL_law_394 rfl ?_
        refine AW.iconst (v := (1 : Int32)) dL_law_395 (by decide) ?_
        refine AW.iadd dL_law_396 ?_
        obtain ⟨h49, hf⟩ := gd_split hf
        refine AW.scr (x := (X (tn (i4 + (1 : Int32))))) (by rw [hL]; exact h49) (by rw [hX]) dL_law_397 ?_
        refine AW.aload_n dL_law_398 rfl ?_
        refine AW.iload_n dL_law_399 rfl ?_
        refine AW.iconst (v := (2 : Int32)) dL_law_400 (by decide) ?_
        refine AW.iadd dL_law_401 ?_
        obtain ⟨h50, hf⟩ := gd_split hf
        refine AW.scr (x := (X (tn (i4 + (2 : Int32))))) (by rw [hL]; exact h50) (by rw [hX]) dL_law_402 ?_
        obtain ⟨v51, gv51, hf⟩ := ob_split hf
        refine TW.invv (as := [.int (X (tn (i4 + (1 : Int32)))), .int (X (tn (i4 + (2 : Int32))))]) (rest := [.int v48]) viL_43_12 hs.k89 dL_law_403 rfl rfl (Nat.le_of_ble_eq_true rfl) (c_X12_ruleTold hs gv51 ?_)
        show AW G (mL nm) (d + 75) (6 * (n + 1)) (163 * (n + 1)) K 406 [some (.ref 25), some (.ref 32), some (.ref 89), some (.int i4)] [.int v51, .int v48] (I1, J2, R3)
        refine AW.icmp_eq (tgt := 1177) dL_law_406 (by decide) (fun hc => ?_) (fun hc => ?_)
        · have hf := (if_pos hc).symm.trans hf
          refine AW.iinc (v := (i4 + (6 : Int32))) (ls' := [some (.ref 25), some (.ref 32), some (.ref 89), some (.int (i4 + (6 : Int32)))]) dL_law_1177 rfl rfl (Nat.le_of_ble_eq_true rfl) rfl ?_
          refine AW.goto (tgt := 18) dL_law_1180 (by decide) ?_
          exact AW.le (c' := 6 * n) (n' := 163 * n) (by omega) (by omega) (AW.weak _ (by exact (And.intro rfl (And.intro rfl (And.intro rfl (And.intro rfl trivial))))) (ih I1 J2 R3 (i4 + (6 : Int32)) hs hf hE))
        · have hf := (if_neg hc).symm.trans hf
          refine AW.iconst (v := (0 : Int32)) dL_law_409 (by decide) ?_
          obtain rfl := Option.some.inj hf
          exact AW.zret (st := []) dL_law_410 rfl (Or.inl rfl) ((show Sh R3 → _ from hE) hs)
      have hf := (if_neg hc6).symm.trans hf
      by_cases hc7 : ((X (tn i4)) &&& (31 : Int32)) = (7 : Int32)
      · have hf := (if_pos hc7).symm.trans hf
        refine AW.swIn (tgt := 411) dL_law_33 (by rw [hc7]; decide) (by rw [hc7]; decide) (by rw [hc7]; rfl) (by decide) ?_
        refine AW.aload_n dL_law_411 rfl ?_
        refine AW.aload_n dL_law_412 rfl ?_
        refine AW.iload_n dL_law_413 rfl ?_
        refine AW.iconst (v := (1 : Int32)) dL_law_414 (by decide) ?_
        refine AW.iadd dL_law_415 ?_
        obtain ⟨h52, hf⟩ := gd_split hf
        refine AW.scr (x := (X (tn (i4 + (1 : Int32))))) (by rw [hL]; exact h52) (by rw [hX]) dL_law_416 ?_
        refine AW.i2l dL_law_417 ?_
        refine AW.bipush (v := (32 : Int32)) dL_law_418 (by decide) ?_
        refine AW.lshl dL_law_420 ?_
        refine AW.aload_n dL_law_421 rfl ?_
        refine AW.iload_n dL_law_422 rfl ?_
        refine AW.iconst (v := (2 : Int32)) dL_law_423 (by decide) ?_
        refine AW.iadd dL_law_424 ?_
        obtain ⟨h53, hf⟩ := gd_split hf
        refine AW.scr (x := (X (tn (i4 + (2 : Int32))))) (by rw [hL]; exact h53) (by rw [hX]) dL_law_425 ?_
        refine AW.i2l dL_law_426 ?_
        refine AW.ldc2 dL_law_427 kcL_44 ?_
        refine AW.land dL_law_430 ?_
        refine AW.lor dL_law_431 ?_
        refine AW.aload_n dL_law_432 rfl ?_
        refine AW.iload_n dL_law_433 rfl ?_
        refine AW.iconst (v := (3 : Int32)) dL_law_434 (by decide) ?_
        refine AW.iadd dL_law_435 ?_
        obtain ⟨h54, hf⟩ := gd_split hf
        refine AW.scr (x := (X (tn (i4 + (3 : Int32))))) (by rw [hL]; exact h54) (by rw [hX]) dL_law_436 ?_
        obtain ⟨v55, gv55, hf⟩ := ob_split hf
        refine TW.invv (as := [.long ((((X (tn (i4 + (1 : Int32)))).toInt64) <<< ((32 : Int32).toInt64 &&& 63)) ||| (((X (tn (i4 + (2 : Int32)))).toInt64) &&& (4294967295 : Int64))), .int (X (tn (i4 + (3 : Int32))))]) (rest := []) viL_46_11 hs.k32 dL_law_437 rfl rfl (Nat.le_of_ble_eq_true rfl) (c_X11_feed hs gv55 ?_)
        show AW G (mL nm) (d + 75) (6 * (n + 1)) (163 * (n + 1)) K 440 [some (.ref 25), some (.ref 32), some (.ref 89), some (.int i4)] [.int v55.2] (v55.1, J2, R3)
        refine AW.aload_n dL_law_440 rfl ?_
        refine AW.aload_n dL_law_441 rfl ?_
        refine AW.iload_n dL_law_442 rfl ?_
        refine AW.iconst (v := (1 : Int32)) dL_law_443 (by decide) ?_
        refine AW.iadd dL_law_444 ?_
        obtain ⟨h56, hf⟩ := gd_split hf
        refine AW.scr (x := (X (tn (i4 + (1 : Int32))))) (by rw [hL]; exact h56) (by rw [hX]) dL_law_445 ?_
        refine AW.i2l dL_law_446 ?_
        refine AW.bipush (v := (32 : Int32)) dL_law_447 (by decide) ?_
        refine AW.lshl dL_law_449 ?_
        refine AW.aload_n dL_law_450 rfl ?_
        refine AW.iload_n dL_law_451 rfl ?_
        refine AW.iconst (v := (2 : Int32)) dL_law_452 (by decide) ?_
        refine AW.iadd dL_law_453 ?_
        obtain ⟨h57, hf⟩ := gd_split hf
        refine AW.scr (x := (X (tn (i4 + (2 : Int32))))) (by rw [hL]; exact h57) (by rw [hX]) dL_law_454 ?_
        refine AW.i2l dL_law_455 ?_
        refine AW.ldc2 dL_law_456 kcL_44 ?_
        refine AW.land dL_law_459 ?_
        refine AW.lor dL_law_460 ?_
        refine AW.aload_n dL_law_461 rfl ?_
        refine AW.iload_n dL_law_462 rfl ?_
        refine AW.iconst (v := (3 : Int32)) dL_law_463 (by decide) ?_
        refine AW.iadd dL_law_464 ?_
        obtain ⟨h58, hf⟩ := gd_split hf
        refine AW.scr (x := (X (tn (i4 + (3 : Int32))))) (by rw [hL]; exact h58) (by rw [hX]) dL_law_465 ?_
        obtain ⟨v59, gv59, hf⟩ := ob_split hf
        refine TW.invv (as := [.long ((((X (tn (i4 + (1 : Int32)))).toInt64) <<< ((32 : Int32).toInt64 &&& 63)) ||| (((X (tn (i4 + (2 : Int32)))).toInt64) &&& (4294967295 : Int64))), .int (X (tn (i4 + (3 : Int32))))]) (rest := [.int v55.2]) viL_50_12 hs.k89 dL_law_466 rfl rfl (Nat.le_of_ble_eq_true rfl) (c_X12_feed hs gv59 ?_)
        show AW G (mL nm) (d + 75) (6 * (n + 1)) (163 * (n + 1)) K 469 [some (.ref 25), some (.ref 32), some (.ref 89), some (.int i4)] [.int v59.2, .int v55.2] (v59.1, J2, R3)
        refine AW.icmp_eq (tgt := 1177) dL_law_469 (by decide) (fun hc => ?_) (fun hc => ?_)
        · have hf := (if_pos hc).symm.trans hf
          refine AW.iinc (v := (i4 + (6 : Int32))) (ls' := [some (.ref 25), some (.ref 32), some (.ref 89), some (.int (i4 + (6 : Int32)))]) dL_law_1177 rfl rfl (Nat.le_of_ble_eq_true rfl) rfl ?_
          refine AW.goto (tgt := 18) dL_law_1180 (by decide) ?_
          exact AW.le (c' := 6 * n) (n' := 163 * n) (by omega) (by omega) (AW.weak _ (by exact (And.intro rfl (And.intro rfl (And.intro rfl (And.intro rfl trivial))))) (ih v59.1 J2 R3 (i4 + (6 : Int32)) hs hf hE))
        · have hf := (if_neg hc).symm.trans hf
          refine AW.iconst (v := (0 : Int32)) dL_law_472 (by decide) ?_
          obtain rfl := Option.some.inj hf
          exact AW.zret (st := []) dL_law_473 rfl (Or.inl rfl) ((show Sh R3 → _ from hE) hs)
      have hf := (if_neg hc7).symm.trans hf
      by_cases hc8 : ((X (tn i4)) &&& (31 : Int32)) = (8 : Int32)
      · have hf := (if_pos hc8).symm.trans hf
        refine AW.swIn (tgt := 474) dL_law_33 (by rw [hc8]; decide) (by rw [hc8]; decide) (by rw [hc8]; rfl) (by decide) ?_
        refine AW.aload_n dL_law_474 rfl ?_
        obtain ⟨v60, gv60, hf⟩ := ob_split hf
        refine AW.le (c' := 2 + 6 * n) (n' := 163 + 163 * n) (by omega) (by omega) ?_
        refine AW.invv (c1 := 2) (n1 := 163) (c := 6 * n) (n := 163 * n) (as := []) (rest := []) viL_51_11 hs.k32 dL_law_475 rfl rfl (Nat.le_of_ble_eq_true rfl) (c_X11_text hs gv60 (fun hs => ?_))
        show AW G (mL nm) (d + 75) (6 * n) (163 * n) K 478 [some (.ref 25), some (.ref 32), some (.ref 89), some (.int i4)] [.int v60.2.2.2] (v60.1, v60.2.1, v60.2.2.1)
        refine AW.aload_n dL_law_478 rfl ?_
        obtain ⟨v61, gv61, hf⟩ := ob_split hf
        refine TW.invv (as := []) (rest := [.int v60.2.2.2]) viL_55_12 hs.k89 dL_law_479 rfl rfl (Nat.le_of_ble_eq_true rfl) (c_X12_text hs gv61 ?_)
        show AW G (mL nm) (d + 75) (6 * n) (163 * n) K 482 [some (.ref 25), some (.ref 32), some (.ref 89), some (.int i4)] [.int v61.2, .int v60.2.2.2] (v61.1, v60.2.1, v60.2.2.1)
        refine AW.icmp_eq (tgt := 1177) dL_law_482 (by decide) (fun hc => ?_) (fun hc => ?_)
        · have hf := (if_pos hc).symm.trans hf
          refine AW.iinc (v := (i4 + (6 : Int32))) (ls' := [some (.ref 25), some (.ref 32), some (.ref 89), some (.int (i4 + (6 : Int32)))]) dL_law_1177 rfl rfl (Nat.le_of_ble_eq_true rfl) rfl ?_
          refine AW.goto (tgt := 18) dL_law_1180 (by decide) ?_
          exact AW.le (c' := 6 * n) (n' := 163 * n) (by omega) (by omega) (AW.weak _ (by exact (And.intro rfl (And.intro rfl (And.intro rfl (And.intro rfl trivial))))) (ih v61.1 v60.2.1 v60.2.2.1 (i4 + (6 : Int32)) hs hf hE))
        · have hf := (if_neg hc).symm.trans hf
          refine AW.iconst (v := (0 : Int32)) dL_law_485 (by decide) ?_
          obtain rfl := Option.some.inj hf
          exact AW.zret (st := []) dL_law_486 rfl (Or.inl rfl) ((show Sh v60.2.2.1 → _ from hE) hs)
      have hf := (if_neg hc8).symm.trans hf
      by_cases hc9 : ((X (tn i4)) &&& (31 : Int32)) = (9 : Int32)
      · have hf := (if_pos hc9).symm.trans hf
        refine AW.swIn (tgt := 487) dL_law_33 (by rw [hc9]; decide) (by rw [hc9]; decide) (by rw [hc9]; rfl) (by decide) ?_
        refine AW.aload_n dL_law_487 rfl ?_
        refine AW.aload_n dL_law_488 rfl ?_
        refine AW.iload_n dL_law_489 rfl ?_
        refine AW.iconst (v := (1 : Int32)) dL_law_490 (by decide) ?_
        refine AW.iadd dL_law_491 ?_
        obtain ⟨h62, hf⟩ := gd_split hf
        refine AW.scr (x := (X (tn (i4 + (1 : Int32))))) (by rw [hL]; exact h62) (by rw [hX]) dL_law_492 ?_
        obtain ⟨v63, gv63, hf⟩ := ob_split hf
        refine TW.invv (as := [.int (X (tn (i4 + (1 : Int32))))]) (rest := []) viL_56_11 hs.k32 dL_law_493 rfl rfl (Nat.le_of_ble_eq_true rfl) (c_X11_force hs gv63 (fun hs => ?_))
        show AW G (mL nm) (d + 75) (6 * (n + 1)) (163 * (n + 1)) K 496 [some (.ref 25), some (.ref 32), some (.ref 89), some (.int i4)] [.int v63.2] (I1, J2, v63.1)
        refine AW.aload_n dL_law_496 rfl ?_
        refine AW.aload_n dL_law_497 rfl ?_
        refine AW.iload_n dL_law_498 rfl ?_
        refine AW.iconst (v := (1 : Int32)) dL_law_499 (by decide) ?_
        refine AW.iadd dL_law_500 ?_
        obtain ⟨h64, hf⟩ := gd_split hf
        refine AW.scr (x := (X (tn (i4 + (1 : Int32))))) (by rw [hL]; exact h64) (by rw [hX]) dL_law_501 ?_
        obtain ⟨v65, gv65, hf⟩ := ob_split hf
        refine TW.invv (as := [.int (X (tn (i4 + (1 : Int32))))]) (rest := [.int v63.2]) viL_59_12 hs.k89 dL_law_502 rfl rfl (Nat.le_of_ble_eq_true rfl) (c_X12_force hs gv65 ?_)
        show AW G (mL nm) (d + 75) (6 * (n + 1)) (163 * (n + 1)) K 505 [some (.ref 25), some (.ref 32), some (.ref 89), some (.int i4)] [.int v65.2, .int v63.2] (v65.1, J2, v63.1)
        refine AW.icmp_eq (tgt := 1177) dL_law_505 (by decide) (fun hc => ?_) (fun hc => ?_)
        · have hf := (if_pos hc).symm.trans hf
          refine AW.iinc (v := (i4 + (6 : Int32))) (ls' := [some (.ref 25), some (.ref 32), some (.ref 89), some (.int (i4 + (6 : Int32)))]) dL_law_1177 rfl rfl (Nat.le_of_ble_eq_true rfl) rfl ?_
          refine AW.goto (tgt := 18) dL_law_1180 (by decide) ?_
          exact AW.le (c' := 6 * n) (n' := 163 * n) (by omega) (by omega) (AW.weak _ (by exact (And.intro rfl (And.intro rfl (And.intro rfl (And.intro rfl trivial))))) (ih v65.1 J2 v63.1 (i4 + (6 : Int32)) hs hf hE))
        · have hf := (if_neg hc).symm.trans hf
          refine AW.iconst (v := (0 : Int32)) dL_law_508 (by decide) ?_
          obtain rfl := Option.some.inj hf
          exact AW.zret (st := []) dL_law_509 rfl (Or.inl rfl) ((show Sh v63.1 → _ from hE) hs)
      have hf := (if_neg hc9).symm.trans hf
      by_cases hc10 : ((X (tn i4)) &&& (31 : Int32)) = (10 : Int32)
      · have hf := (if_pos hc10).symm.trans hf
        refine AW.swIn (tgt := 510) dL_law_33 (by rw [hc10]; decide) (by rw [hc10]; decide) (by rw [hc10]; rfl) (by decide) ?_
        refine AW.aload_n dL_law_510 rfl ?_
        refine AW.aload_n dL_law_511 rfl ?_
        refine AW.iload_n dL_law_512 rfl ?_
        refine AW.iconst (v := (1 : Int32)) dL_law_513 (by decide) ?_
        refine AW.iadd dL_law_514 ?_
        obtain ⟨h66, hf⟩ := gd_split hf
        refine AW.scr (x := (X (tn (i4 + (1 : Int32))))) (by rw [hL]; exact h66) (by rw [hX]) dL_law_515 ?_
        refine AW.aload_n dL_law_516 rfl ?_
        refine AW.iload_n dL_law_517 rfl ?_
        refine AW.iconst (v := (2 : Int32)) dL_law_518 (by decide) ?_
        refine AW.iadd dL_law_519 ?_
        obtain ⟨h67, hf⟩ := gd_split hf
        refine AW.scr (x := (X (tn (i4 + (2 : Int32))))) (by rw [hL]; exact h67) (by rw [hX]) dL_law_520 ?_
        refine AW.aload_n dL_law_521 rfl ?_
        refine AW.iload_n dL_law_522 rfl ?_
        refine AW.iconst (v := (3 : Int32)) dL_law_523 (by decide) ?_
        refine AW.iadd dL_law_524 ?_
        obtain ⟨h68, hf⟩ := gd_split hf
        refine AW.scr (x := (X (tn (i4 + (3 : Int32))))) (by rw [hL]; exact h68) (by rw [hX]) dL_law_525 ?_
        obtain ⟨v69, gv69, hf⟩ := ob_split hf
        refine TW.invv (as := [.int (X (tn (i4 + (1 : Int32)))), .int (X (tn (i4 + (2 : Int32)))), .int (X (tn (i4 + (3 : Int32))))]) (rest := []) viL_60_11 hs.k32 dL_law_526 rfl rfl (Nat.le_of_ble_eq_true rfl) (c_X11_home hs gv69 (fun hs => ?_))
        show AW G (mL nm) (d + 75) (6 * (n + 1)) (163 * (n + 1)) K 529 [some (.ref 25), some (.ref 32), some (.ref 89), some (.int i4)] [.long v69.2.2.2] (v69.1, v69.2.1, v69.2.2.1)
        refine AW.aload_n dL_law_529 rfl ?_
        refine AW.aload_n dL_law_530 rfl ?_
        refine AW.iload_n dL_law_531 rfl ?_
        refine AW.iconst (v := (1 : Int32)) dL_law_532 (by decide) ?_
        refine AW.iadd dL_law_533 ?_
        obtain ⟨h70, hf⟩ := gd_split hf
        refine AW.scr (x := (X (tn (i4 + (1 : Int32))))) (by rw [hL]; exact h70) (by rw [hX]) dL_law_534 ?_
        refine AW.aload_n dL_law_535 rfl ?_
        refine AW.iload_n dL_law_536 rfl ?_
        refine AW.iconst (v := (2 : Int32)) dL_law_537 (by decide) ?_
        refine AW.iadd dL_law_538 ?_
        obtain ⟨h71, hf⟩ := gd_split hf
        refine AW.scr (x := (X (tn (i4 + (2 : Int32))))) (by rw [hL]; exact h71) (by rw [hX]) dL_law_539 ?_
        refine AW.aload_n dL_law_540 rfl ?_
        refine AW.iload_n dL_law_541 rfl ?_
        refine AW.iconst (v := (3 : Int32)) dL_law_542 (by decide) ?_
        refine AW.iadd dL_law_543 ?_
        obtain ⟨h72, hf⟩ := gd_split hf
        refine AW.scr (x := (X (tn (i4 + (3 : Int32))))) (by rw [hL]; exact h72) (by rw [hX]) dL_law_544 ?_
        obtain ⟨v73, gv73, hf⟩ := ob_split hf
        refine TW.invv (as := [.int (X (tn (i4 + (1 : Int32)))), .int (X (tn (i4 + (2 : Int32)))), .int (X (tn (i4 + (3 : Int32))))]) (rest := [.long v69.2.2.2]) viL_64_12 hs.k89 dL_law_545 rfl rfl (Nat.le_of_ble_eq_true rfl) (c_X12_home hs gv73 ?_)
        show AW G (mL nm) (d + 75) (6 * (n + 1)) (163 * (n + 1)) K 548 [some (.ref 25), some (.ref 32), some (.ref 89), some (.int i4)] [.long v73.2, .long v69.2.2.2] (v73.1, v69.2.1, v69.2.2.1)
        refine AW.lcmp dL_law_548 ?_
        refine AW.if_eq (tgt := 1177) dL_law_549 (by decide) (fun hc => ?_) (fun hc => ?_)
        · have hc : (v69.2.2.2 = v73.2) := (lc_eq _ _).mp hc; have hf := (if_pos hc).symm.trans hf
          refine AW.iinc (v := (i4 + (6 : Int32))) (ls' := [some (.ref 25), some (.ref 32), some (.ref 89), some (.int (i4 + (6 : Int32)))]) dL_law_1177 rfl rfl (Nat.le_of_ble_eq_true rfl) rfl ?_
          refine AW.goto (tgt := 18) dL_law_1180 (by decide) ?_
          exact AW.le (c' := 6 * n) (n' := 163 * n) (by omega) (by omega) (AW.weak _ (by exact (And.intro rfl (And.intro rfl (And.intro rfl (And.intro rfl trivial))))) (ih v73.1 v69.2.1 v69.2.2.1 (i4 + (6 : Int32)) hs hf hE))
        · have hc : ¬ (v69.2.2.2 = v73.2) := fun z => hc ((lc_eq _ _).mpr z); have hf := (if_neg hc).symm.trans hf
          refine AW.iconst (v := (0 : Int32)) dL_law_552 (by decide) ?_
          obtain rfl := Option.some.inj hf
          exact AW.zret (st := []) dL_law_553 rfl (Or.inl rfl) ((show Sh v69.2.2.1 → _ from hE) hs)
      have hf := (if_neg hc10).symm.trans hf
      by_cases hc11 : ((X (tn i4)) &&& (31 : Int32)) = (11 : Int32)
      · have hf := (if_pos hc11).symm.trans hf
        refine AW.swIn (tgt := 554) dL_law_33 (by rw [hc11]; decide) (by rw [hc11]; decide) (by rw [hc11]; rfl) (by decide) ?_
        refine AW.aload_n dL_law_554 rfl ?_
        refine AW.aload_n dL_law_555 rfl ?_
        refine AW.iload_n dL_law_556 rfl ?_
        refine AW.iconst (v := (1 : Int32)) dL_law_557 (by decide) ?_
        refine AW.iadd dL_law_558 ?_
        obtain ⟨h74, hf⟩ := gd_split hf
        refine AW.scr (x := (X (tn (i4 + (1 : Int32))))) (by rw [hL]; exact h74) (by rw [hX]) dL_law_559 ?_
        refine AW.aload_n dL_law_560 rfl ?_
        refine AW.iload_n dL_law_561 rfl ?_
        refine AW.iconst (v := (2 : Int32)) dL_law_562 (by decide) ?_
        refine AW.iadd dL_law_563 ?_
        obtain ⟨h75, hf⟩ := gd_split hf
        refine AW.scr (x := (X (tn (i4 + (2 : Int32))))) (by rw [hL]; exact h75) (by rw [hX]) dL_law_564 ?_
        refine AW.aload_n dL_law_565 rfl ?_
        refine AW.iload_n dL_law_566 rfl ?_
        refine AW.iconst (v := (3 : Int32)) dL_law_567 (by decide) ?_
        refine AW.iadd dL_law_568 ?_
        obtain ⟨h76, hf⟩ := gd_split hf
        refine AW.scr (x := (X (tn (i4 + (3 : Int32))))) (by rw [hL]; exact h76) (by rw [hX]) dL_law_569 ?_
        obtain ⟨v77, gv77, hf⟩ := ob_split hf
        refine TW.invv (as := [.int (X (tn (i4 + (1 : Int32)))), .int (X (tn (i4 + (2 : Int32)))), .int (X (tn (i4 + (3 : Int32))))]) (rest := []) viL_65_11 hs.k32 dL_law_570 rfl rfl (Nat.le_of_ble_eq_true rfl) (c_X11_mean hs gv77 (fun hs => ?_))
        show AW G (mL nm) (d + 75) (6 * (n + 1)) (163 * (n + 1)) K 573 [some (.ref 25), some (.ref 32), some (.ref 89), some (.int i4)] [.long v77.2.2.2] (v77.1, v77.2.1, v77.2.2.1)
        refine AW.aload_n dL_law_573 rfl ?_
        refine AW.aload_n dL_law_574 rfl ?_
        refine AW.iload_n dL_law_575 rfl ?_
        refine AW.iconst (v := (1 : Int32)) dL_law_576 (by decide) ?_
        refine AW.iadd dL_law_577 ?_
        obtain ⟨h78, hf⟩ := gd_split hf
        refine AW.scr (x := (X (tn (i4 + (1 : Int32))))) (by rw [hL]; exact h78) (by rw [hX]) dL_law_578 ?_
        refine AW.aload_n dL_law_579 rfl ?_
        refine AW.iload_n dL_law_580 rfl ?_
        refine AW.iconst (v := (2 : Int32)) dL_law_581 (by decide) ?_
        refine AW.iadd dL_law_582 ?_
        obtain ⟨h79, hf⟩ := gd_split hf
        refine AW.scr (x := (X (tn (i4 + (2 : Int32))))) (by rw [hL]; exact h79) (by rw [hX]) dL_law_583 ?_
        refine AW.aload_n dL_law_584 rfl ?_
        refine AW.iload_n dL_law_585 rfl ?_
        refine AW.iconst (v := (3 : Int32)) dL_law_586 (by decide) ?_
        refine AW.iadd dL_law_587 ?_
        obtain ⟨h80, hf⟩ := gd_split hf
        refine AW.scr (x := (X (tn (i4 + (3 : Int32))))) (by rw [hL]; exact h80) (by rw [hX]) dL_law_588 ?_
        obtain ⟨v81, gv81, hf⟩ := ob_split hf
        refine TW.invv (as := [.int (X (tn (i4 + (1 : Int32)))), .int (X (tn (i4 + (2 : Int32)))), .int (X (tn (i4 + (3 : Int32))))]) (rest := [.long v77.2.2.2]) viL_68_12 hs.k89 dL_law_589 rfl rfl (Nat.le_of_ble_eq_true rfl) (c_X12_mean hs gv81 ?_)
        show AW G (mL nm) (d + 75) (6 * (n + 1)) (163 * (n + 1)) K 592 [some (.ref 25), some (.ref 32), some (.ref 89), some (.int i4)] [.long v81.2, .long v77.2.2.2] (v81.1, v77.2.1, v77.2.2.1)
        refine AW.lcmp dL_law_592 ?_
        refine AW.if_eq (tgt := 1177) dL_law_593 (by decide) (fun hc => ?_) (fun hc => ?_)
        · have hc : (v77.2.2.2 = v81.2) := (lc_eq _ _).mp hc; have hf := (if_pos hc).symm.trans hf
          refine AW.iinc (v := (i4 + (6 : Int32))) (ls' := [some (.ref 25), some (.ref 32), some (.ref 89), some (.int (i4 + (6 : Int32)))]) dL_law_1177 rfl rfl (Nat.le_of_ble_eq_true rfl) rfl ?_
          refine AW.goto (tgt := 18) dL_law_1180 (by decide) ?_
          exact AW.le (c' := 6 * n) (n' := 163 * n) (by omega) (by omega) (AW.weak _ (by exact (And.intro rfl (And.intro rfl (And.intro rfl (And.intro rfl trivial))))) (ih v81.1 v77.2.1 v77.2.2.1 (i4 + (6 : Int32)) hs hf hE))
        · have hc : ¬ (v77.2.2.2 = v81.2) := fun z => hc ((lc_eq _ _).mpr z); have hf := (if_neg hc).symm.trans hf
          refine AW.iconst (v := (0 : Int32)) dL_law_596 (by decide) ?_
          obtain rfl := Option.some.inj hf
          exact AW.zret (st := []) dL_law_597 rfl (Or.inl rfl) ((show Sh v77.2.2.1 → _ from hE) hs)
      have hf := (if_neg hc11).symm.trans hf
      by_cases hc12 : ((X (tn i4)) &&& (31 : Int32)) = (12 : Int32)
      · have hf := (if_pos hc12).symm.trans hf
        refine AW.swIn (tgt := 598) dL_law_33 (by rw [hc12]; decide) (by rw [hc12]; decide) (by rw [hc12]; rfl) (by decide) ?_
        refine AW.aload_n dL_law_598 rfl ?_
        refine AW.aload_n dL_law_599 rfl ?_
        refine AW.iload_n dL_law_600 rfl ?_
        refine AW.iconst (v := (1 : Int32)) dL_law_601 (by decide) ?_
        refine AW.iadd dL_law_602 ?_
        obtain ⟨h82, hf⟩ := gd_split hf
        refine AW.scr (x := (X (tn (i4 + (1 : Int32))))) (by rw [hL]; exact h82) (by rw [hX]) dL_law_603 ?_
        refine AW.aload_n dL_law_604 rfl ?_
        refine AW.iload_n dL_law_605 rfl ?_
        refine AW.iconst (v := (2 : Int32)) dL_law_606 (by decide) ?_
        refine AW.iadd dL_law_607 ?_
        obtain ⟨h83, hf⟩ := gd_split hf
        refine AW.scr (x := (X (tn (i4 + (2 : Int32))))) (by rw [hL]; exact h83) (by rw [hX]) dL_law_608 ?_
        refine AW.aload_n dL_law_609 rfl ?_
        refine AW.iload_n dL_law_610 rfl ?_
        refine AW.iconst (v := (3 : Int32)) dL_law_611 (by decide) ?_
        refine AW.iadd dL_law_612 ?_
        obtain ⟨h84, hf⟩ := gd_split hf
        refine AW.scr (x := (X (tn (i4 + (3 : Int32))))) (by rw [hL]; exact h84) (by rw [hX]) dL_law_613 ?_
        refine AW.aload_n dL_law_614 rfl ?_
        refine AW.iload_n dL_law_615 rfl ?_
        refine AW.iconst (v := (4 : Int32)) dL_law_616 (by decide) ?_
        refine AW.iadd dL_law_617 ?_
        obtain ⟨h85, hf⟩ := gd_split hf
        refine AW.scr (x := (X (tn (i4 + (4 : Int32))))) (by rw [hL]; exact h85) (by rw [hX]) dL_law_618 ?_
        obtain ⟨v86, gv86, hf⟩ := ob_split hf
        refine TW.invv (as := [.int (X (tn (i4 + (1 : Int32)))), .int (X (tn (i4 + (2 : Int32)))), .int (X (tn (i4 + (3 : Int32)))), .int (X (tn (i4 + (4 : Int32))))]) (rest := []) viL_69_11 hs.k32 dL_law_619 rfl rfl (Nat.le_of_ble_eq_true rfl) (c_X11_told hs gv86 (fun hs => ?_))
        show AW G (mL nm) (d + 75) (6 * (n + 1)) (163 * (n + 1)) K 622 [some (.ref 25), some (.ref 32), some (.ref 89), some (.int i4)] [.int v86.2.2.2] (v86.1, v86.2.1, v86.2.2.1)
        refine AW.aload_n dL_law_622 rfl ?_
        refine AW.aload_n dL_law_623 rfl ?_
        refine AW.iload_n dL_law_624 rfl ?_
        refine AW.iconst (v := (1 : Int32)) dL_law_625 (by decide) ?_
        refine AW.iadd dL_law_626 ?_
        obtain ⟨h87, hf⟩ := gd_split hf
        refine AW.scr (x := (X (tn (i4 + (1 : Int32))))) (by rw [hL]; exact h87) (by rw [hX]) dL_law_627 ?_
        refine AW.aload_n dL_law_628 rfl ?_
        refine AW.iload_n dL_law_629 rfl ?_
        refine AW.iconst (v := (2 : Int32)) dL_law_630 (by decide) ?_
        refine AW.iadd dL_law_631 ?_
        obtain ⟨h88, hf⟩ := gd_split hf
        refine AW.scr (x := (X (tn (i4 + (2 : Int32))))) (by rw [hL]; exact h88) (by rw [hX]) dL_law_632 ?_
        refine AW.aload_n dL_law_633 rfl ?_
        refine AW.iload_n dL_law_634 rfl ?_
        refine AW.iconst (v := (3 : Int32)) dL_law_635 (by decide) ?_
        refine AW.iadd dL_law_636 ?_
        obtain ⟨h89, hf⟩ := gd_split hf
        refine AW.scr (x := (X (tn (i4 + (3 : Int32))))) (by rw [hL]; exact h89) (by rw [hX]) dL_law_637 ?_
        refine AW.aload_n dL_law_638 rfl ?_
        refine AW.iload_n dL_law_639 rfl ?_
        refine AW.iconst (v := (4 : Int32)) dL_law_640 (by decide) ?_
        refine AW.iadd dL_law_641 ?_
        obtain ⟨h90, hf⟩ := gd_split hf
        refine AW.scr (x := (X (tn (i4 + (4 : Int32))))) (by rw [hL]; exact h90) (by rw [hX]) dL_law_642 ?_
        obtain ⟨v91, gv91, hf⟩ := ob_split hf
        refine TW.invv (as := [.int (X (tn (i4 + (1 : Int32)))), .int (X (tn (i4 + (2 : Int32)))), .int (X (tn (i4 + (3 : Int32)))), .int (X (tn (i4 + (4 : Int32))))]) (rest := [.int v86.2.2.2]) viL_73_12 hs.k89 dL_law_643 rfl rfl (Nat.le_of_ble_eq_true rfl) (c_X12_told hs gv91 ?_)
        show AW G (mL nm) (d + 75) (6 * (n + 1)) (163 * (n + 1)) K 646 [some (.ref 25), some (.ref 32), some (.ref 89), some (.int i4)] [.int v91.2, .int v86.2.2.2] (v91.1, v86.2.1, v86.2.2.1)
        refine AW.icmp_eq (tgt := 1177) dL_law_646 (by decide) (fun hc => ?_) (fun hc => ?_)
        · have hf := (if_pos hc).symm.trans hf
          refine AW.iinc (v := (i4 + (6 : Int32))) (ls' := [some (.ref 25), some (.ref 32), some (.ref 89), some (.int (i4 + (6 : Int32)))]) dL_law_1177 rfl rfl (Nat.le_of_ble_eq_true rfl) rfl ?_
          refine AW.goto (tgt := 18) dL_law_1180 (by decide) ?_
          exact AW.le (c' := 6 * n) (n' := 163 * n) (by omega) (by omega) (AW.weak _ (by exact (And.intro rfl (And.intro rfl (And.intro rfl (And.intro rfl trivial))))) (ih v91.1 v86.2.1 v86.2.2.1 (i4 + (6 : Int32)) hs hf hE))
        · have hf := (if_neg hc).symm.trans hf
          refine AW.iconst (v := (0 : Int32)) dL_law_649 (by decide) ?_
          obtain rfl := Option.some.inj hf
          exact AW.zret (st := []) dL_law_650 rfl (Or.inl rfl) ((show Sh v86.2.2.1 → _ from hE) hs)
      have hf := (if_neg hc12).symm.trans hf
      by_cases hc13 : ((X (tn i4)) &&& (31 : Int32)) = (13 : Int32)
      · have hf := (if_pos hc13).symm.trans hf
        refine AW.swIn (tgt := 651) dL_law_33 (by rw [hc13]; decide) (by rw [hc13]; decide) (by rw [hc13]; rfl) (by decide) ?_
        refine AW.aload_n dL_law_651 rfl ?_
        refine AW.aload_n dL_law_652 rfl ?_
        refine AW.iload_n dL_law_653 rfl ?_
        refine AW.iconst (v := (1 : Int32)) dL_law_654 (by decide) ?_
        refine AW.iadd dL_law_655 ?_
        obtain ⟨h92, hf⟩ := gd_split hf
        refine AW.scr (x := (X (tn (i4 + (1 : Int32))))) (by rw [hL]; exact h92) (by rw [hX]) dL_law_656 ?_
        refine AW.aload_n dL_law_657 rfl ?_
        refine AW.iload_n dL_law_658 rfl ?_
        refine AW.iconst (v := (2 : Int32)) dL_law_659 (by decide) ?_
        refine AW.iadd dL_law_660 ?_
        obtain ⟨h93, hf⟩ := gd_split hf
        refine AW.scr (x := (X (tn (i4 + (2 : Int32))))) (by rw [hL]; exact h93) (by rw [hX]) dL_law_661 ?_
        obtain ⟨v94, gv94, hf⟩ := ob_split hf
        refine TW.invv (as := [.int (X (tn (i4 + (1 : Int32)))), .int (X (tn (i4 + (2 : Int32))))]) (rest := []) viL_74_11 hs.k32 dL_law_662 rfl rfl (Nat.le_of_ble_eq_true rfl) (c_X11_ends hs gv94 (fun hs => ?_))
        show AW G (mL nm) (d + 75) (6 * (n + 1)) (163 * (n + 1)) K 665 [some (.ref 25), some (.ref 32), some (.ref 89), some (.int i4)] [.int v94.2.2.2] (v94.1, v94.2.1, v94.2.2.1)
        refine AW.aload_n dL_law_665 rfl ?_
        refine AW.aload_n dL_law_666 rfl ?_
        refine AW.iload_n dL_law_667 rfl ?_
        refine AW.iconst (v := (1 : Int32)) dL_law_668 (by decide) ?_
        refine AW.iadd dL_law_669 ?_
        obtain ⟨h95, hf⟩ := gd_split hf
        refine AW.scr (x := (X (tn (i4 + (1 : Int32))))) (by rw [hL]; exact h95) (by rw [hX]) dL_law_670 ?_
        refine AW.aload_n dL_law_671 rfl ?_
        refine AW.iload_n dL_law_672 rfl ?_
        refine AW.iconst (v := (2 : Int32)) dL_law_673 (by decide) ?_
        refine AW.iadd dL_law_674 ?_
        obtain ⟨h96, hf⟩ := gd_split hf
        refine AW.scr (x := (X (tn (i4 + (2 : Int32))))) (by rw [hL]; exact h96) (by rw [hX]) dL_law_675 ?_
        obtain ⟨v97, gv97, hf⟩ := ob_split hf
        refine TW.invv (as := [.int (X (tn (i4 + (1 : Int32)))), .int (X (tn (i4 + (2 : Int32))))]) (rest := [.int v94.2.2.2]) viL_77_12 hs.k89 dL_law_676 rfl rfl (Nat.le_of_ble_eq_true rfl) (c_X12_ends hs gv97 ?_)
        show AW G (mL nm) (d + 75) (6 * (n + 1)) (163 * (n + 1)) K 679 [some (.ref 25), some (.ref 32), some (.ref 89), some (.int i4)] [.int v97.2, .int v94.2.2.2] (v97.1, v94.2.1, v94.2.2.1)
        refine AW.icmp_eq (tgt := 1177) dL_law_679 (by decide) (fun hc => ?_) (fun hc => ?_)
        · have hf := (if_pos hc).symm.trans hf
          refine AW.iinc (v := (i4 + (6 : Int32))) (ls' := [some (.ref 25), some (.ref 32), some (.ref 89), some (.int (i4 + (6 : Int32)))]) dL_law_1177 rfl rfl (Nat.le_of_ble_eq_true rfl) rfl ?_
          refine AW.goto (tgt := 18) dL_law_1180 (by decide) ?_
          exact AW.le (c' := 6 * n) (n' := 163 * n) (by omega) (by omega) (AW.weak _ (by exact (And.intro rfl (And.intro rfl (And.intro rfl (And.intro rfl trivial))))) (ih v97.1 v94.2.1 v94.2.2.1 (i4 + (6 : Int32)) hs hf hE))
        · have hf := (if_neg hc).symm.trans hf
          refine AW.iconst (v := (0 : Int32)) dL_law_682 (by decide) ?_
          obtain rfl := Option.some.inj hf
          exact AW.zret (st := []) dL_law_683 rfl (Or.inl rfl) ((show Sh v94.2.2.1 → _ from hE) hs)
      have hf := (if_neg hc13).symm.trans hf
      by_cases hc14 : ((X (tn i4)) &&& (31 : Int32)) = (14 : Int32)
      · have hf := (if_pos hc14).symm.trans hf
        refine AW.swIn (tgt := 684) dL_law_33 (by rw [hc14]; decide) (by rw [hc14]; decide) (by rw [hc14]; rfl) (by decide) ?_
        refine AW.aload_n dL_law_684 rfl ?_
        refine AW.aload_n dL_law_685 rfl ?_
        refine AW.iload_n dL_law_686 rfl ?_
        refine AW.iconst (v := (1 : Int32)) dL_law_687 (by decide) ?_
        refine AW.iadd dL_law_688 ?_
        obtain ⟨h98, hf⟩ := gd_split hf
        refine AW.scr (x := (X (tn (i4 + (1 : Int32))))) (by rw [hL]; exact h98) (by rw [hX]) dL_law_689 ?_
        obtain ⟨v99, gv99, hf⟩ := ob_split hf
        refine TW.invv (as := [.int (X (tn (i4 + (1 : Int32))))]) (rest := []) viL_78_11 hs.k32 dL_law_690 rfl rfl (Nat.le_of_ble_eq_true rfl) (c_X11_best hs gv99 (fun hs => ?_))
        show AW G (mL nm) (d + 75) (6 * (n + 1)) (163 * (n + 1)) K 693 [some (.ref 25), some (.ref 32), some (.ref 89), some (.int i4)] [.int v99.2.2.2] (v99.1, v99.2.1, v99.2.2.1)
        refine AW.aload_n dL_law_693 rfl ?_
        refine AW.aload_n dL_law_694 rfl ?_
        refine AW.iload_n dL_law_695 rfl ?_
        refine AW.iconst (v := (1 : Int32)) dL_law_696 (by decide) ?_
        refine AW.iadd dL_law_697 ?_
        obtain ⟨h100, hf⟩ := gd_split hf
        refine AW.scr (x := (X (tn (i4 + (1 : Int32))))) (by rw [hL]; exact h100) (by rw [hX]) dL_law_698 ?_
        obtain ⟨v101, gv101, hf⟩ := ob_split hf
        refine TW.invv (as := [.int (X (tn (i4 + (1 : Int32))))]) (rest := [.int v99.2.2.2]) viL_81_12 hs.k89 dL_law_699 rfl rfl (Nat.le_of_ble_eq_true rfl) (c_X12_best hs gv101 ?_)
        show AW G (mL nm) (d + 75) (6 * (n + 1)) (163 * (n + 1)) K 702 [some (.ref 25), some (.ref 32), some (.ref 89), some (.int i4)] [.int v101.2, .int v99.2.2.2] (v101.1, v99.2.1, v99.2.2.1)
        refine AW.icmp_eq (tgt := 1177) dL_law_702 (by decide) (fun hc => ?_) (fun hc => ?_)
        · have hf := (if_pos hc).symm.trans hf
          refine AW.iinc (v := (i4 + (6 : Int32))) (ls' := [some (.ref 25), some (.ref 32), some (.ref 89), some (.int (i4 + (6 : Int32)))]) dL_law_1177 rfl rfl (Nat.le_of_ble_eq_true rfl) rfl ?_
          refine AW.goto (tgt := 18) dL_law_1180 (by decide) ?_
          exact AW.le (c' := 6 * n) (n' := 163 * n) (by omega) (by omega) (AW.weak _ (by exact (And.intro rfl (And.intro rfl (And.intro rfl (And.intro rfl trivial))))) (ih v101.1 v99.2.1 v99.2.2.1 (i4 + (6 : Int32)) hs hf hE))
        · have hf := (if_neg hc).symm.trans hf
          refine AW.iconst (v := (0 : Int32)) dL_law_705 (by decide) ?_
          obtain rfl := Option.some.inj hf
          exact AW.zret (st := []) dL_law_706 rfl (Or.inl rfl) ((show Sh v99.2.2.1 → _ from hE) hs)
      have hf := (if_neg hc14).symm.trans hf
      by_cases hc15 : ((X (tn i4)) &&& (31 : Int32)) = (15 : Int32)
      · have hf := (if_pos hc15).symm.trans hf
        refine AW.swIn (tgt := 707) dL_law_33 (by rw [hc15]; decide) (by rw [hc15]; decide) (by rw [hc15]; rfl) (by decide) ?_
        refine AW.aload_n dL_law_707 rfl ?_
        refine AW.aload_n dL_law_708 rfl ?_
        refine AW.iload_n dL_law_709 rfl ?_
        refine AW.iconst (v := (1 : Int32)) dL_law_710 (by decide) ?_
        refine AW.iadd dL_law_711 ?_
        obtain ⟨h102, hf⟩ := gd_split hf
        refine AW.scr (x := (X (tn (i4 + (1 : Int32))))) (by rw [hL]; exact h102) (by rw [hX]) dL_law_712 ?_
        obtain ⟨v103, gv103, hf⟩ := ob_split hf
        refine TW.invv (as := [.int (X (tn (i4 + (1 : Int32))))]) (rest := []) viL_82_11 hs.k32 dL_law_713 rfl rfl (Nat.le_of_ble_eq_true rfl) (c_X11_rations hs gv103 (fun hs => ?_))
        show AW G (mL nm) (d + 75) (6 * (n + 1)) (163 * (n + 1)) K 716 [some (.ref 25), some (.ref 32), some (.ref 89), some (.int i4)] [.int v103.2.2.2] (v103.1, v103.2.1, v103.2.2.1)
        refine AW.aload_n dL_law_716 rfl ?_
        refine AW.aload_n dL_law_717 rfl ?_
        refine AW.iload_n dL_law_718 rfl ?_
        refine AW.iconst (v := (1 : Int32)) dL_law_719 (by decide) ?_
        refine AW.iadd dL_law_720 ?_
        obtain ⟨h104, hf⟩ := gd_split hf
        refine AW.scr (x := (X (tn (i4 + (1 : Int32))))) (by rw [hL]; exact h104) (by rw [hX]) dL_law_721 ?_
        obtain ⟨v105, gv105, hf⟩ := ob_split hf
        refine TW.invv (as := [.int (X (tn (i4 + (1 : Int32))))]) (rest := [.int v103.2.2.2]) viL_85_12 hs.k89 dL_law_722 rfl rfl (Nat.le_of_ble_eq_true rfl) (c_X12_rations hs gv105 ?_)
        show AW G (mL nm) (d + 75) (6 * (n + 1)) (163 * (n + 1)) K 725 [some (.ref 25), some (.ref 32), some (.ref 89), some (.int i4)] [.int v105.2, .int v103.2.2.2] (v105.1, v103.2.1, v103.2.2.1)
        refine AW.icmp_eq (tgt := 1177) dL_law_725 (by decide) (fun hc => ?_) (fun hc => ?_)
        · have hf := (if_pos hc).symm.trans hf
          refine AW.iinc (v := (i4 + (6 : Int32))) (ls' := [some (.ref 25), some (.ref 32), some (.ref 89), some (.int (i4 + (6 : Int32)))]) dL_law_1177 rfl rfl (Nat.le_of_ble_eq_true rfl) rfl ?_
          refine AW.goto (tgt := 18) dL_law_1180 (by decide) ?_
          exact AW.le (c' := 6 * n) (n' := 163 * n) (by omega) (by omega) (AW.weak _ (by exact (And.intro rfl (And.intro rfl (And.intro rfl (And.intro rfl trivial))))) (ih v105.1 v103.2.1 v103.2.2.1 (i4 + (6 : Int32)) hs hf hE))
        · have hf := (if_neg hc).symm.trans hf
          refine AW.iconst (v := (0 : Int32)) dL_law_728 (by decide) ?_
          obtain rfl := Option.some.inj hf
          exact AW.zret (st := []) dL_law_729 rfl (Or.inl rfl) ((show Sh v103.2.2.1 → _ from hE) hs)
      have hf := (if_neg hc15).symm.trans hf
      by_cases hc16 : ((X (tn i4)) &&& (31 : Int32)) = (16 : Int32)
      · have hf := (if_pos hc16).symm.trans hf
        refine AW.swIn (tgt := 730) dL_law_33 (by rw [hc16]; decide) (by rw [hc16]; decide) (by rw [hc16]; rfl) (by decide) ?_
        refine AW.aload_n dL_law_730 rfl ?_
        refine AW.aload_n dL_law_731 rfl ?_
        refine AW.iload_n dL_law_732 rfl ?_
        refine AW.iconst (v := (1 : Int32)) dL_law_733 (by decide) ?_
        refine AW.iadd dL_law_734 ?_
        obtain ⟨h106, hf⟩ := gd_split hf
        refine AW.scr (x := (X (tn (i4 + (1 : Int32))))) (by rw [hL]; exact h106) (by rw [hX]) dL_law_735 ?_
        refine AW.aload_n dL_law_736 rfl ?_
        refine AW.iload_n dL_law_737 rfl ?_
        refine AW.iconst (v := (2 : Int32)) dL_law_738 (by decide) ?_
        refine AW.iadd dL_law_739 ?_
        obtain ⟨h107, hf⟩ := gd_split hf
        refine AW.scr (x := (X (tn (i4 + (2 : Int32))))) (by rw [hL]; exact h107) (by rw [hX]) dL_law_740 ?_
        obtain ⟨v108, gv108, hf⟩ := ob_split hf
        refine TW.invv (as := [.int (X (tn (i4 + (1 : Int32)))), .int (X (tn (i4 + (2 : Int32))))]) (rest := []) viL_86_11 hs.k32 dL_law_741 rfl rfl (Nat.le_of_ble_eq_true rfl) (c_X11_take hs gv108 (fun hs => ?_))
        show AW G (mL nm) (d + 75) (6 * (n + 1)) (163 * (n + 1)) K 744 [some (.ref 25), some (.ref 32), some (.ref 89), some (.int i4)] [.int v108.2.2.2] (v108.1, v108.2.1, v108.2.2.1)
        refine AW.aload_n dL_law_744 rfl ?_
        refine AW.aload_n dL_law_745 rfl ?_
        refine AW.iload_n dL_law_746 rfl ?_
        refine AW.iconst (v := (1 : Int32)) dL_law_747 (by decide) ?_
        refine AW.iadd dL_law_748 ?_
        obtain ⟨h109, hf⟩ := gd_split hf
        refine AW.scr (x := (X (tn (i4 + (1 : Int32))))) (by rw [hL]; exact h109) (by rw [hX]) dL_law_749 ?_
        refine AW.aload_n dL_law_750 rfl ?_
        refine AW.iload_n dL_law_751 rfl ?_
        refine AW.iconst (v := (2 : Int32)) dL_law_752 (by decide) ?_
        refine AW.iadd dL_law_753 ?_
        obtain ⟨h110, hf⟩ := gd_split hf
        refine AW.scr (x := (X (tn (i4 + (2 : Int32))))) (by rw [hL]; exact h110) (by rw [hX]) dL_law_754 ?_
        obtain ⟨v111, gv111, hf⟩ := ob_split hf
        refine TW.invv (as := [.int (X (tn (i4 + (1 : Int32)))), .int (X (tn (i4 + (2 : Int32))))]) (rest := [.int v108.2.2.2]) viL_89_12 hs.k89 dL_law_755 rfl rfl (Nat.le_of_ble_eq_true rfl) (c_X12_take hs gv111 ?_)
        show AW G (mL nm) (d + 75) (6 * (n + 1)) (163 * (n + 1)) K 758 [some (.ref 25), some (.ref 32), some (.ref 89), some (.int i4)] [.int v111.2.2, .int v108.2.2.2] (v111.1, v111.2.1, v108.2.2.1)
        refine AW.icmp_eq (tgt := 1177) dL_law_758 (by decide) (fun hc => ?_) (fun hc => ?_)
        · have hf := (if_pos hc).symm.trans hf
          refine AW.iinc (v := (i4 + (6 : Int32))) (ls' := [some (.ref 25), some (.ref 32), some (.ref 89), some (.int (i4 + (6 : Int32)))]) dL_law_1177 rfl rfl (Nat.le_of_ble_eq_true rfl) rfl ?_
          refine AW.goto (tgt := 18) dL_law_1180 (by decide) ?_
          exact AW.le (c' := 6 * n) (n' := 163 * n) (by omega) (by omega) (AW.weak _ (by exact (And.intro rfl (And.intro rfl (And.intro rfl (And.intro rfl trivial))))) (ih v111.1 v111.2.1 v108.2.2.1 (i4 + (6 : Int32)) hs hf hE))
        · have hf := (if_neg hc).symm.trans hf
          refine AW.iconst (v := (0 : Int32)) dL_law_761 (by decide) ?_
          obtain rfl := Option.some.inj hf
          exact AW.zret (st := []) dL_law_762 rfl (Or.inl rfl) ((show Sh v108.2.2.1 → _ from hE) hs)
      have hf := (if_neg hc16).symm.trans hf
      by_cases hc17 : ((X (tn i4)) &&& (31 : Int32)) = (17 : Int32)
      · have hf := (if_pos hc17).symm.trans hf
        refine AW.swIn (tgt := 763) dL_law_33 (by rw [hc17]; decide) (by rw [hc17]; decide) (by rw [hc17]; rfl) (by decide) ?_
        refine AW.aload_n dL_law_763 rfl ?_
        refine AW.aload_n dL_law_764 rfl ?_
        refine AW.iload_n dL_law_765 rfl ?_
        refine AW.iconst (v := (1 : Int32)) dL_law_766 (by decide) ?_
        refine AW.iadd dL_law_767 ?_
        obtain ⟨h112, hf⟩ := gd_split hf
        refine AW.scr (x := (X (tn (i4 + (1 : Int32))))) (by rw [hL]; exact h112) (by rw [hX]) dL_law_768 ?_
        obtain ⟨v113, gv113, hf⟩ := ob_split hf
        refine TW.invv (as := [.int (X (tn (i4 + (1 : Int32))))]) (rest := []) viL_90_11 hs.k32 dL_law_769 rfl rfl (Nat.le_of_ble_eq_true rfl) (c_X11_takes hs gv113 (fun hs => ?_))
        show AW G (mL nm) (d + 75) (6 * (n + 1)) (163 * (n + 1)) K 772 [some (.ref 25), some (.ref 32), some (.ref 89), some (.int i4)] [.int v113.2.2.2] (v113.1, v113.2.1, v113.2.2.1)
        refine AW.aload_n dL_law_772 rfl ?_
        refine AW.aload_n dL_law_773 rfl ?_
        refine AW.iload_n dL_law_774 rfl ?_
        refine AW.iconst (v := (1 : Int32)) dL_law_775 (by decide) ?_
        refine AW.iadd dL_law_776 ?_
        obtain ⟨h114, hf⟩ := gd_split hf
        refine AW.scr (x := (X (tn (i4 + (1 : Int32))))) (by rw [hL]; exact h114) (by rw [hX]) dL_law_777 ?_
        obtain ⟨v115, gv115, hf⟩ := ob_split hf
        refine TW.invv (as := [.int (X (tn (i4 + (1 : Int32))))]) (rest := [.int v113.2.2.2]) viL_93_12 hs.k89 dL_law_778 rfl rfl (Nat.le_of_ble_eq_true rfl) (c_X12_takes hs gv115 ?_)
        show AW G (mL nm) (d + 75) (6 * (n + 1)) (163 * (n + 1)) K 781 [some (.ref 25), some (.ref 32), some (.ref 89), some (.int i4)] [.int v115.2.2, .int v113.2.2.2] (v115.1, v115.2.1, v113.2.2.1)
        refine AW.icmp_eq (tgt := 1177) dL_law_781 (by decide) (fun hc => ?_) (fun hc => ?_)
        · have hf := (if_pos hc).symm.trans hf
          refine AW.iinc (v := (i4 + (6 : Int32))) (ls' := [some (.ref 25), some (.ref 32), some (.ref 89), some (.int (i4 + (6 : Int32)))]) dL_law_1177 rfl rfl (Nat.le_of_ble_eq_true rfl) rfl ?_
          refine AW.goto (tgt := 18) dL_law_1180 (by decide) ?_
          exact AW.le (c' := 6 * n) (n' := 163 * n) (by omega) (by omega) (AW.weak _ (by exact (And.intro rfl (And.intro rfl (And.intro rfl (And.intro rfl trivial))))) (ih v115.1 v115.2.1 v113.2.2.1 (i4 + (6 : Int32)) hs hf hE))
        · have hf := (if_neg hc).symm.trans hf
          refine AW.iconst (v := (0 : Int32)) dL_law_784 (by decide) ?_
          obtain rfl := Option.some.inj hf
          exact AW.zret (st := []) dL_law_785 rfl (Or.inl rfl) ((show Sh v113.2.2.1 → _ from hE) hs)
      have hf := (if_neg hc17).symm.trans hf
      by_cases hc18 : ((X (tn i4)) &&& (31 : Int32)) = (18 : Int32)
      · have hf := (if_pos hc18).symm.trans hf
        refine AW.swIn (tgt := 786) dL_law_33 (by rw [hc18]; decide) (by rw [hc18]; decide) (by rw [hc18]; rfl) (by decide) ?_
        refine AW.aload_n dL_law_786 rfl ?_
        refine AW.aload_n dL_law_787 rfl ?_
        refine AW.iload_n dL_law_788 rfl ?_
        refine AW.iconst (v := (1 : Int32)) dL_law_789 (by decide) ?_
        refine AW.iadd dL_law_790 ?_
        obtain ⟨h116, hf⟩ := gd_split hf
        refine AW.scr (x := (X (tn (i4 + (1 : Int32))))) (by rw [hL]; exact h116) (by rw [hX]) dL_law_791 ?_
        refine AW.aload_n dL_law_792 rfl ?_
        refine AW.iload_n dL_law_793 rfl ?_
        refine AW.iconst (v := (2 : Int32)) dL_law_794 (by decide) ?_
        refine AW.iadd dL_law_795 ?_
        obtain ⟨h117, hf⟩ := gd_split hf
        refine AW.scr (x := (X (tn (i4 + (2 : Int32))))) (by rw [hL]; exact h117) (by rw [hX]) dL_law_796 ?_
        refine AW.aload_n dL_law_797 rfl ?_
        refine AW.iload_n dL_law_798 rfl ?_
        refine AW.iconst (v := (3 : Int32)) dL_law_799 (by decide) ?_
        refine AW.iadd dL_law_800 ?_
        obtain ⟨h118, hf⟩ := gd_split hf
        refine AW.scr (x := (X (tn (i4 + (3 : Int32))))) (by rw [hL]; exact h118) (by rw [hX]) dL_law_801 ?_
        refine AW.aload_n dL_law_802 rfl ?_
        refine AW.iload_n dL_law_803 rfl ?_
        refine AW.iconst (v := (4 : Int32)) dL_law_804 (by decide) ?_
        refine AW.iadd dL_law_805 ?_
        obtain ⟨h119, hf⟩ := gd_split hf
        refine AW.scr (x := (X (tn (i4 + (4 : Int32))))) (by rw [hL]; exact h119) (by rw [hX]) dL_law_806 ?_
        obtain ⟨v120, gv120, hf⟩ := ob_split hf
        refine TW.invv (as := [.int (X (tn (i4 + (1 : Int32)))), .int (X (tn (i4 + (2 : Int32)))), .int (X (tn (i4 + (3 : Int32)))), .int (X (tn (i4 + (4 : Int32))))]) (rest := []) viL_94_11 hs.k32 dL_law_807 rfl rfl (Nat.le_of_ble_eq_true rfl) (c_X11_hid hs gv120 (fun hs => ?_))
        show AW G (mL nm) (d + 75) (6 * (n + 1)) (163 * (n + 1)) K 810 [some (.ref 25), some (.ref 32), some (.ref 89), some (.int i4)] [.long v120.2.2.2] (v120.1, v120.2.1, v120.2.2.1)
        refine AW.aload_n dL_law_810 rfl ?_
        refine AW.aload_n dL_law_811 rfl ?_
        refine AW.iload_n dL_law_812 rfl ?_
        refine AW.iconst (v := (1 : Int32)) dL_law_813 (by decide) ?_
        refine AW.iadd dL_law_814 ?_
        obtain ⟨h121, hf⟩ := gd_split hf
        refine AW.scr (x := (X (tn (i4 + (1 : Int32))))) (by rw [hL]; exact h121) (by rw [hX]) dL_law_815 ?_
        refine AW.aload_n dL_law_816 rfl ?_
        refine AW.iload_n dL_law_817 rfl ?_
        refine AW.iconst (v := (2 : Int32)) dL_law_818 (by decide) ?_
        refine AW.iadd dL_law_819 ?_
        obtain ⟨h122, hf⟩ := gd_split hf
        refine AW.scr (x := (X (tn (i4 + (2 : Int32))))) (by rw [hL]; exact h122) (by rw [hX]) dL_law_820 ?_
        refine AW.aload_n dL_law_821 rfl ?_
        refine AW.iload_n dL_law_822 rfl ?_
        refine AW.iconst (v := (3 : Int32)) dL_law_823 (by decide) ?_
        refine AW.iadd dL_law_824 ?_
        obtain ⟨h123, hf⟩ := gd_split hf
        refine AW.scr (x := (X (tn (i4 + (3 : Int32))))) (by rw [hL]; exact h123) (by rw [hX]) dL_law_825 ?_
        refine AW.aload_n dL_law_826 rfl ?_
        refine AW.iload_n dL_law_827 rfl ?_
        refine AW.iconst (v := (4 : Int32)) dL_law_828 (by decide) ?_
        refine AW.iadd dL_law_829 ?_
        obtain ⟨h124, hf⟩ := gd_split hf
        refine AW.scr (x := (X (tn (i4 + (4 : Int32))))) (by rw [hL]; exact h124) (by rw [hX]) dL_law_830 ?_
        obtain ⟨v125, gv125, hf⟩ := ob_split hf
        refine TW.invv (as := [.int (X (tn (i4 + (1 : Int32)))), .int (X (tn (i4 + (2 : Int32)))), .int (X (tn (i4 + (3 : Int32)))), .int (X (tn (i4 + (4 : Int32))))]) (rest := [.long v120.2.2.2]) viL_98_12 hs.k89 dL_law_831 rfl rfl (Nat.le_of_ble_eq_true rfl) (c_X12_hid hs gv125 ?_)
        show AW G (mL nm) (d + 75) (6 * (n + 1)) (163 * (n + 1)) K 834 [some (.ref 25), some (.ref 32), some (.ref 89), some (.int i4)] [.long v125.2, .long v120.2.2.2] (v125.1, v120.2.1, v120.2.2.1)
        refine AW.lcmp dL_law_834 ?_
        refine AW.if_eq (tgt := 1177) dL_law_835 (by decide) (fun hc => ?_) (fun hc => ?_)
        · have hc : (v120.2.2.2 = v125.2) := (lc_eq _ _).mp hc; have hf := (if_pos hc).symm.trans hf
          refine AW.iinc (v := (i4 + (6 : Int32))) (ls' := [some (.ref 25), some (.ref 32), some (.ref 89), some (.int (i4 + (6 : Int32)))]) dL_law_1177 rfl rfl (Nat.le_of_ble_eq_true rfl) rfl ?_
          refine AW.goto (tgt := 18) dL_law_1180 (by decide) ?_
          exact AW.le (c' := 6 * n) (n' := 163 * n) (by omega) (by omega) (AW.weak _ (by exact (And.intro rfl (And.intro rfl (And.intro rfl (And.intro rfl trivial))))) (ih v125.1 v120.2.1 v120.2.2.1 (i4 + (6 : Int32)) hs hf hE))
        · have hc : ¬ (v120.2.2.2 = v125.2) := fun z => hc ((lc_eq _ _).mpr z); have hf := (if_neg hc).symm.trans hf
          refine AW.iconst (v := (0 : Int32)) dL_law_838 (by decide) ?_
          obtain rfl := Option.some.inj hf
          exact AW.zret (st := []) dL_law_839 rfl (Or.inl rfl) ((show Sh v120.2.2.1 → _ from hE) hs)
      have hf := (if_neg hc18).symm.trans hf
      by_cases hc19 : ((X (tn i4)) &&& (31 : Int32)) = (19 : Int32)
      · have hf := (if_pos hc19).symm.trans hf
        refine AW.swIn (tgt := 840) dL_law_33 (by rw [hc19]; decide) (by rw [hc19]; decide) (by rw [hc19]; rfl) (by decide) ?_
        refine AW.aload_n dL_law_840 rfl ?_
        refine AW.aload_n dL_law_841 rfl ?_
        refine AW.iload_n dL_law_842 rfl ?_
        refine AW.iconst (v := (1 : Int32)) dL_law_843 (by decide) ?_
        refine AW.iadd dL_law_844 ?_
        obtain ⟨h126, hf⟩ := gd_split hf
        refine AW.scr (x := (X (tn (i4 + (1 : Int32))))) (by rw [hL]; exact h126) (by rw [hX]) dL_law_845 ?_
        refine AW.aload_n dL_law_846 rfl ?_
        refine AW.iload_n dL_law_847 rfl ?_
        refine AW.iconst (v := (2 : Int32)) dL_law_848 (by decide) ?_
        refine AW.iadd dL_law_849 ?_
        obtain ⟨h127, hf⟩ := gd_split hf
        refine AW.scr (x := (X (tn (i4 + (2 : Int32))))) (by rw [hL]; exact h127) (by rw [hX]) dL_law_850 ?_
        refine AW.aload_n dL_law_851 rfl ?_
        refine AW.iload_n dL_law_852 rfl ?_
        refine AW.iconst (v := (3 : Int32)) dL_law_853 (by decide) ?_
        refine AW.iadd dL_law_854 ?_
        obtain ⟨h128, hf⟩ := gd_split hf
        refine AW.scr (x := (X (tn (i4 + (3 : Int32))))) (by rw [hL]; exact h128) (by rw [hX]) dL_law_855 ?_
        obtain ⟨v129, gv129, hf⟩ := ob_split hf
        refine TW.invv (as := [.int (X (tn (i4 + (1 : Int32)))), .int (X (tn (i4 + (2 : Int32)))), .int (X (tn (i4 + (3 : Int32))))]) (rest := []) viL_99_11 hs.k32 dL_law_856 rfl rfl (Nat.le_of_ble_eq_true rfl) (c_X11_judge hs gv129 (fun hs => ?_))
        show AW G (mL nm) (d + 75) (6 * (n + 1)) (163 * (n + 1)) K 859 [some (.ref 25), some (.ref 32), some (.ref 89), some (.int i4)] [.int v129.2.2.2] (v129.1, v129.2.1, v129.2.2.1)
        refine AW.aload_n dL_law_859 rfl ?_
        refine AW.aload_n dL_law_860 rfl ?_
        refine AW.iload_n dL_law_861 rfl ?_
        refine AW.iconst (v := (1 : Int32)) dL_law_862 (by decide) ?_
        refine AW.iadd dL_law_863 ?_
        obtain ⟨h130, hf⟩ := gd_split hf
        refine AW.scr (x := (X (tn (i4 + (1 : Int32))))) (by rw [hL]; exact h130) (by rw [hX]) dL_law_864 ?_
        refine AW.aload_n dL_law_865 rfl ?_
        refine AW.iload_n dL_law_866 rfl ?_
        refine AW.iconst (v := (2 : Int32)) dL_law_867 (by decide) ?_
        refine AW.iadd dL_law_868 ?_
        obtain ⟨h131, hf⟩ := gd_split hf
        refine AW.scr (x := (X (tn (i4 + (2 : Int32))))) (by rw [hL]; exact h131) (by rw [hX]) dL_law_869 ?_
        refine AW.aload_n dL_law_870 rfl ?_
        refine AW.iload_n dL_law_871 rfl ?_
        refine AW.iconst (v := (3 : Int32)) dL_law_872 (by decide) ?_
        refine AW.iadd dL_law_873 ?_
        obtain ⟨h132, hf⟩ := gd_split hf
        refine AW.scr (x := (X (tn (i4 + (3 : Int32))))) (by rw [hL]; exact h132) (by rw [hX]) dL_law_874 ?_
        obtain ⟨v133, gv133, hf⟩ := ob_split hf
        refine TW.invv (as := [.int (X (tn (i4 + (1 : Int32)))), .int (X (tn (i4 + (2 : Int32)))), .int (X (tn (i4 + (3 : Int32))))]) (rest := [.int v129.2.2.2]) viL_102_12 hs.k89 dL_law_875 rfl rfl (Nat.le_of_ble_eq_true rfl) (c_X12_judge hs gv133 ?_)
        show AW G (mL nm) (d + 75) (6 * (n + 1)) (163 * (n + 1)) K 878 [some (.ref 25), some (.ref 32), some (.ref 89), some (.int i4)] [.int v133.2, .int v129.2.2.2] (v133.1, v129.2.1, v129.2.2.1)
        refine AW.icmp_eq (tgt := 1177) dL_law_878 (by decide) (fun hc => ?_) (fun hc => ?_)
        · have hf := (if_pos hc).symm.trans hf
          refine AW.iinc (v := (i4 + (6 : Int32))) (ls' := [some (.ref 25), some (.ref 32), some (.ref 89), some (.int (i4 + (6 : Int32)))]) dL_law_1177 rfl rfl (Nat.le_of_ble_eq_true rfl) rfl ?_
          refine AW.goto (tgt := 18) dL_law_1180 (by decide) ?_
          exact AW.le (c' := 6 * n) (n' := 163 * n) (by omega) (by omega) (AW.weak _ (by exact (And.intro rfl (And.intro rfl (And.intro rfl (And.intro rfl trivial))))) (ih v133.1 v129.2.1 v129.2.2.1 (i4 + (6 : Int32)) hs hf hE))
        · have hf := (if_neg hc).symm.trans hf
          refine AW.iconst (v := (0 : Int32)) dL_law_881 (by decide) ?_
          obtain rfl := Option.some.inj hf
          exact AW.zret (st := []) dL_law_882 rfl (Or.inl rfl) ((show Sh v129.2.2.1 → _ from hE) hs)
      have hf := (if_neg hc19).symm.trans hf
      by_cases hc20 : ((X (tn i4)) &&& (31 : Int32)) = (20 : Int32)
      · have hf := (if_pos hc20).symm.trans hf
        refine AW.swIn (tgt := 883) dL_law_33 (by rw [hc20]; decide) (by rw [hc20]; decide) (by rw [hc20]; rfl) (by decide) ?_
        refine AW.aload_n dL_law_883 rfl ?_
        refine AW.aload_n dL_law_884 rfl ?_
        refine AW.iload_n dL_law_885 rfl ?_
        refine AW.iconst (v := (1 : Int32)) dL_law_886 (by decide) ?_
        refine AW.iadd dL_law_887 ?_
        obtain ⟨h134, hf⟩ := gd_split hf
        refine AW.scr (x := (X (tn (i4 + (1 : Int32))))) (by rw [hL]; exact h134) (by rw [hX]) dL_law_888 ?_
        refine AW.aload_n dL_law_889 rfl ?_
        refine AW.iload_n dL_law_890 rfl ?_
        refine AW.iconst (v := (2 : Int32)) dL_law_891 (by decide) ?_
        refine AW.iadd dL_law_892 ?_
        obtain ⟨h135, hf⟩ := gd_split hf
        refine AW.scr (x := (X (tn (i4 + (2 : Int32))))) (by rw [hL]; exact h135) (by rw [hX]) dL_law_893 ?_
        obtain ⟨v136, gv136, hf⟩ := ob_split hf
        refine TW.invv (as := [.int (X (tn (i4 + (1 : Int32)))), .int (X (tn (i4 + (2 : Int32))))]) (rest := []) viL_103_11 hs.k32 dL_law_894 rfl rfl (Nat.le_of_ble_eq_true rfl) (c_X11_until hs gv136 (fun hs => ?_))
        show AW G (mL nm) (d + 75) (6 * (n + 1)) (163 * (n + 1)) K 897 [some (.ref 25), some (.ref 32), some (.ref 89), some (.int i4)] [.int v136.2.2.2] (v136.1, v136.2.1, v136.2.2.1)
        refine AW.aload_n dL_law_897 rfl ?_
        refine AW.aload_n dL_law_898 rfl ?_
        refine AW.iload_n dL_law_899 rfl ?_
        refine AW.iconst (v := (1 : Int32)) dL_law_900 (by decide) ?_
        refine AW.iadd dL_law_901 ?_
        obtain ⟨h137, hf⟩ := gd_split hf
        refine AW.scr (x := (X (tn (i4 + (1 : Int32))))) (by rw [hL]; exact h137) (by rw [hX]) dL_law_902 ?_
        refine AW.aload_n dL_law_903 rfl ?_
        refine AW.iload_n dL_law_904 rfl ?_
        refine AW.iconst (v := (2 : Int32)) dL_law_905 (by decide) ?_
        refine AW.iadd dL_law_906 ?_
        obtain ⟨h138, hf⟩ := gd_split hf
        refine AW.scr (x := (X (tn (i4 + (2 : Int32))))) (by rw [hL]; exact h138) (by rw [hX]) dL_law_907 ?_
        obtain ⟨v139, gv139, hf⟩ := ob_split hf
        refine TW.invv (as := [.int (X (tn (i4 + (1 : Int32)))), .int (X (tn (i4 + (2 : Int32))))]) (rest := [.int v136.2.2.2]) viL_106_12 hs.k89 dL_law_908 rfl rfl (Nat.le_of_ble_eq_true rfl) (c_X12_until hs gv139 ?_)
        show AW G (mL nm) (d + 75) (6 * (n + 1)) (163 * (n + 1)) K 911 [some (.ref 25), some (.ref 32), some (.ref 89), some (.int i4)] [.int v139.2, .int v136.2.2.2] (v139.1, v136.2.1, v136.2.2.1)
        refine AW.icmp_eq (tgt := 1177) dL_law_911 (by decide) (fun hc => ?_) (fun hc => ?_)
        · have hf := (if_pos hc).symm.trans hf
          refine AW.iinc (v := (i4 + (6 : Int32))) (ls' := [some (.ref 25), some (.ref 32), some (.ref 89), some (.int (i4 + (6 : Int32)))]) dL_law_1177 rfl rfl (Nat.le_of_ble_eq_true rfl) rfl ?_
          refine AW.goto (tgt := 18) dL_law_1180 (by decide) ?_
          exact AW.le (c' := 6 * n) (n' := 163 * n) (by omega) (by omega) (AW.weak _ (by exact (And.intro rfl (And.intro rfl (And.intro rfl (And.intro rfl trivial))))) (ih v139.1 v136.2.1 v136.2.2.1 (i4 + (6 : Int32)) hs hf hE))
        · have hf := (if_neg hc).symm.trans hf
          refine AW.iconst (v := (0 : Int32)) dL_law_914 (by decide) ?_
          obtain rfl := Option.some.inj hf
          exact AW.zret (st := []) dL_law_915 rfl (Or.inl rfl) ((show Sh v136.2.2.1 → _ from hE) hs)
      have hf := (if_neg hc20).symm.trans hf
      by_cases hc21 : ((X (tn i4)) &&& (31 : Int32)) = (21 : Int32)
      · have hf := (if_pos hc21).symm.trans hf
        refine AW.swIn (tgt := 916) dL_law_33 (by rw [hc21]; decide) (by rw [hc21]; decide) (by rw [hc21]; rfl) (by decide) ?_
        refine AW.aload_n dL_law_916 rfl ?_
        obtain ⟨v140, gv140, hf⟩ := ob_split hf
        refine AW.le (c' := 6 + 6 * n) (n' := 51 + 163 * n) (by omega) (by omega) ?_
        refine AW.invv (c1 := 6) (n1 := 51) (c := 6 * n) (n := 163 * n) (as := []) (rest := []) viL_107_11 hs.k32 dL_law_917 rfl rfl (Nat.le_of_ble_eq_true rfl) (c_X11_image hs gv140 (fun hs => ?_))
        show AW G (mL nm) (d + 75) (6 * n) (163 * n) K 920 [some (.ref 25), some (.ref 32), some (.ref 89), some (.int i4)] [.int v140.2.2.2] (v140.1, v140.2.1, v140.2.2.1)
        refine AW.aload_n dL_law_920 rfl ?_
        obtain ⟨v141, gv141, hf⟩ := ob_split hf
        refine TW.invv (as := []) (rest := [.int v140.2.2.2]) viL_110_12 hs.k89 dL_law_921 rfl rfl (Nat.le_of_ble_eq_true rfl) (c_X12_image hs gv141 ?_)
        show AW G (mL nm) (d + 75) (6 * n) (163 * n) K 924 [some (.ref 25), some (.ref 32), some (.ref 89), some (.int i4)] [.int v141.2, .int v140.2.2.2] (v141.1, v140.2.1, v140.2.2.1)
        refine AW.icmp_eq (tgt := 1177) dL_law_924 (by decide) (fun hc => ?_) (fun hc => ?_)
        · have hf := (if_pos hc).symm.trans hf
          refine AW.iinc (v := (i4 + (6 : Int32))) (ls' := [some (.ref 25), some (.ref 32), some (.ref 89), some (.int (i4 + (6 : Int32)))]) dL_law_1177 rfl rfl (Nat.le_of_ble_eq_true rfl) rfl ?_
          refine AW.goto (tgt := 18) dL_law_1180 (by decide) ?_
          exact AW.le (c' := 6 * n) (n' := 163 * n) (by omega) (by omega) (AW.weak _ (by exact (And.intro rfl (And.intro rfl (And.intro rfl (And.intro rfl trivial))))) (ih v141.1 v140.2.1 v140.2.2.1 (i4 + (6 : Int32)) hs hf hE))
        · have hf := (if_neg hc).symm.trans hf
          refine AW.iconst (v := (0 : Int32)) dL_law_927 (by decide) ?_
          obtain rfl := Option.some.inj hf
          exact AW.zret (st := []) dL_law_928 rfl (Or.inl rfl) ((show Sh v140.2.2.1 → _ from hE) hs)
      have hf := (if_neg hc21).symm.trans hf
      by_cases hc22 : ((X (tn i4)) &&& (31 : Int32)) = (22 : Int32)
      · have hf := (if_pos hc22).symm.trans hf
        refine AW.swIn (tgt := 929) dL_law_33 (by rw [hc22]; decide) (by rw [hc22]; decide) (by rw [hc22]; rfl) (by decide) ?_
        refine AW.aload_n dL_law_929 rfl ?_
        obtain ⟨v142, gv142, hf⟩ := ob_split hf
        refine TW.invv (as := []) (rest := []) viL_111_11 hs.k32 dL_law_930 rfl rfl (Nat.le_of_ble_eq_true rfl) (c_X11_back hs gv142 (fun hs => ?_))
        show AW G (mL nm) (d + 75) (6 * (n + 1)) (163 * (n + 1)) K 933 [some (.ref 25), some (.ref 32), some (.ref 89), some (.int i4)] [.int v142.2.2] (v142.1, J2, v142.2.1)
        refine AW.aload_n dL_law_933 rfl ?_
        obtain ⟨v143, gv143, hf⟩ := ob_split hf
        refine TW.invv (as := []) (rest := [.int v142.2.2]) viL_114_12 hs.k89 dL_law_934 rfl rfl (Nat.le_of_ble_eq_true rfl) (c_X12_back hs gv143 ?_)
        show AW G (mL nm) (d + 75) (6 * (n + 1)) (163 * (n + 1)) K 937 [some (.ref 25), some (.ref 32), some (.ref 89), some (.int i4)] [.int v143.2, .int v142.2.2] (v143.1, J2, v142.2.1)
        refine AW.icmp_eq (tgt := 1177) dL_law_937 (by decide) (fun hc => ?_) (fun hc => ?_)
        · have hf := (if_pos hc).symm.trans hf
          refine AW.iinc (v := (i4 + (6 : Int32))) (ls' := [some (.ref 25), some (.ref 32), some (.ref 89), some (.int (i4 + (6 : Int32)))]) dL_law_1177 rfl rfl (Nat.le_of_ble_eq_true rfl) rfl ?_
          refine AW.goto (tgt := 18) dL_law_1180 (by decide) ?_
          exact AW.le (c' := 6 * n) (n' := 163 * n) (by omega) (by omega) (AW.weak _ (by exact (And.intro rfl (And.intro rfl (And.intro rfl (And.intro rfl trivial))))) (ih v143.1 J2 v142.2.1 (i4 + (6 : Int32)) hs hf hE))
        · have hf := (if_neg hc).symm.trans hf
          refine AW.iconst (v := (0 : Int32)) dL_law_940 (by decide) ?_
          obtain rfl := Option.some.inj hf
          exact AW.zret (st := []) dL_law_941 rfl (Or.inl rfl) ((show Sh v142.2.1 → _ from hE) hs)
      have hf := (if_neg hc22).symm.trans hf
      by_cases hc23 : ((X (tn i4)) &&& (31 : Int32)) = (23 : Int32)
      · have hf := (if_pos hc23).symm.trans hf
        refine AW.swIn (tgt := 942) dL_law_33 (by rw [hc23]; decide) (by rw [hc23]; decide) (by rw [hc23]; rfl) (by decide) ?_
        refine AW.aload_n dL_law_942 rfl ?_
        refine AW.aload_n dL_law_943 rfl ?_
        refine AW.iload_n dL_law_944 rfl ?_
        refine AW.iconst (v := (1 : Int32)) dL_law_945 (by decide) ?_
        refine AW.iadd dL_law_946 ?_
        obtain ⟨h144, hf⟩ := gd_split hf
        refine AW.scr (x := (X (tn (i4 + (1 : Int32))))) (by rw [hL]; exact h144) (by rw [hX]) dL_law_947 ?_
        refine AW.aload_n dL_law_948 rfl ?_
        refine AW.iload_n dL_law_949 rfl ?_
        refine AW.iconst (v := (2 : Int32)) dL_law_950 (by decide) ?_
        refine AW.iadd dL_law_951 ?_
        obtain ⟨h145, hf⟩ := gd_split hf
        refine AW.scr (x := (X (tn (i4 + (2 : Int32))))) (by rw [hL]; exact h145) (by rw [hX]) dL_law_952 ?_
        refine AW.aload_n dL_law_953 rfl ?_
        refine AW.iload_n dL_law_954 rfl ?_
        refine AW.iconst (v := (3 : Int32)) dL_law_955 (by decide) ?_
        refine AW.iadd dL_law_956 ?_
        obtain ⟨h146, hf⟩ := gd_split hf
        refine AW.scr (x := (X (tn (i4 + (3 : Int32))))) (by rw [hL]; exact h146) (by rw [hX]) dL_law_957 ?_
        obtain ⟨v147, gv147, hf⟩ := ob_split hf
        refine TW.invv (as := [.int (X (tn (i4 + (1 : Int32)))), .int (X (tn (i4 + (2 : Int32)))), .int (X (tn (i4 + (3 : Int32))))]) (rest := []) viL_115_11 hs.k32 dL_law_958 rfl rfl (Nat.le_of_ble_eq_true rfl) (c_X11_sheet hs gv147 ?_)
        show AW G (mL nm) (d + 75) (6 * (n + 1)) (163 * (n + 1)) K 961 [some (.ref 25), some (.ref 32), some (.ref 89), some (.int i4)] [.int v147.2] (v147.1, J2, R3)
        refine AW.aload_n dL_law_961 rfl ?_
        refine AW.aload_n dL_law_962 rfl ?_
        refine AW.iload_n dL_law_963 rfl ?_
        refine AW.iconst (v := (1 : Int32)) dL_law_964 (by decide) ?_
        refine AW.iadd dL_law_965 ?_
        obtain ⟨h148, hf⟩ := gd_split hf
        refine AW.scr (x := (X (tn (i4 + (1 : Int32))))) (by rw [hL]; exact h148) (by rw [hX]) dL_law_966 ?_
        refine AW.aload_n dL_law_967 rfl ?_
        refine AW.iload_n dL_law_968 rfl ?_
        refine AW.iconst (v := (2 : Int32)) dL_law_969 (by decide) ?_
        refine AW.iadd dL_law_970 ?_
        obtain ⟨h149, hf⟩ := gd_split hf
        refine AW.scr (x := (X (tn (i4 + (2 : Int32))))) (by rw [hL]; exact h149) (by rw [hX]) dL_law_971 ?_
        refine AW.aload_n dL_law_972 rfl ?_
        refine AW.iload_n dL_law_973 rfl ?_
        refine AW.iconst (v := (3 : Int32)) dL_law_974 (by decide) ?_
        refine AW.iadd dL_law_975 ?_
        obtain ⟨h150, hf⟩ := gd_split hf
        refine AW.scr (x := (X (tn (i4 + (3 : Int32))))) (by rw [hL]; exact h150) (by rw [hX]) dL_law_976 ?_
        obtain ⟨v151, gv151, hf⟩ := ob_split hf
        refine TW.invv (as := [.int (X (tn (i4 + (1 : Int32)))), .int (X (tn (i4 + (2 : Int32)))), .int (X (tn (i4 + (3 : Int32))))]) (rest := [.int v147.2]) viL_118_12 hs.k89 dL_law_977 rfl rfl (Nat.le_of_ble_eq_true rfl) (c_X12_sheet hs gv151 ?_)
        show AW G (mL nm) (d + 75) (6 * (n + 1)) (163 * (n + 1)) K 980 [some (.ref 25), some (.ref 32), some (.ref 89), some (.int i4)] [.int v151.2, .int v147.2] (v151.1, J2, R3)
        refine AW.icmp_eq (tgt := 1177) dL_law_980 (by decide) (fun hc => ?_) (fun hc => ?_)
        · have hf := (if_pos hc).symm.trans hf
          refine AW.iinc (v := (i4 + (6 : Int32))) (ls' := [some (.ref 25), some (.ref 32), some (.ref 89), some (.int (i4 + (6 : Int32)))]) dL_law_1177 rfl rfl (Nat.le_of_ble_eq_true rfl) rfl ?_
          refine AW.goto (tgt := 18) dL_law_1180 (by decide) ?_
          exact AW.le (c' := 6 * n) (n' := 163 * n) (by omega) (by omega) (AW.weak _ (by exact (And.intro rfl (And.intro rfl (And.intro rfl (And.intro rfl trivial))))) (ih v151.1 J2 R3 (i4 + (6 : Int32)) hs hf hE))
        · have hf := (if_neg hc).symm.trans hf
          refine AW.iconst (v := (0 : Int32)) dL_law_983 (by decide) ?_
          obtain rfl := Option.some.inj hf
          exact AW.zret (st := []) dL_law_984 rfl (Or.inl rfl) ((show Sh R3 → _ from hE) hs)
      have hf := (if_neg hc23).symm.trans hf
      by_cases hc24 : ((X (tn i4)) &&& (31 : Int32)) = (24 : Int32)
      · have hf := (if_pos hc24).symm.trans hf
        refine AW.swIn (tgt := 985) dL_law_33 (by rw [hc24]; decide) (by rw [hc24]; decide) (by rw [hc24]; rfl) (by decide) ?_
        refine AW.aload_n dL_law_985 rfl ?_
        refine AW.aload_n dL_law_986 rfl ?_
        refine AW.iload_n dL_law_987 rfl ?_
        refine AW.iconst (v := (1 : Int32)) dL_law_988 (by decide) ?_
        refine AW.iadd dL_law_989 ?_
        obtain ⟨h152, hf⟩ := gd_split hf
        refine AW.scr (x := (X (tn (i4 + (1 : Int32))))) (by rw [hL]; exact h152) (by rw [hX]) dL_law_990 ?_
        refine AW.aload_n dL_law_991 rfl ?_
        refine AW.iload_n dL_law_992 rfl ?_
        refine AW.iconst (v := (2 : Int32)) dL_law_993 (by decide) ?_
        refine AW.iadd dL_law_994 ?_
        obtain ⟨h153, hf⟩ := gd_split hf
        refine AW.scr (x := (X (tn (i4 + (2 : Int32))))) (by rw [hL]; exact h153) (by rw [hX]) dL_law_995 ?_
        refine AW.aload_n dL_law_996 rfl ?_
        refine AW.iload_n dL_law_997 rfl ?_
        refine AW.iconst (v := (3 : Int32)) dL_law_998 (by decide) ?_
        refine AW.iadd dL_law_999 ?_
        obtain ⟨h154, hf⟩ := gd_split hf
        refine AW.scr (x := (X (tn (i4 + (3 : Int32))))) (by rw [hL]; exact h154) (by rw [hX]) dL_law_1000 ?_
        obtain ⟨v155, gv155, hf⟩ := ob_split hf
        refine TW.invv (as := [.int (X (tn (i4 + (1 : Int32)))), .int (X (tn (i4 + (2 : Int32)))), .int (X (tn (i4 + (3 : Int32))))]) (rest := []) viL_119_11 hs.k32 dL_law_1001 rfl rfl (Nat.le_of_ble_eq_true rfl) (c_X11_cell hs gv155 ?_)
        show AW G (mL nm) (d + 75) (6 * (n + 1)) (163 * (n + 1)) K 1004 [some (.ref 25), some (.ref 32), some (.ref 89), some (.int i4)] [.int v155.2] (v155.1, J2, R3)
        refine AW.aload_n dL_law_1004 rfl ?_
        refine AW.aload_n dL_law_1005 rfl ?_
        refine AW.iload_n dL_law_1006 rfl ?_
        refine AW.iconst (v := (1 : Int32)) dL_law_1007 (by decide) ?_
        refine AW.iadd dL_law_1008 ?_
        obtain ⟨h156, hf⟩ := gd_split hf
        refine AW.scr (x := (X (tn (i4 + (1 : Int32))))) (by rw [hL]; exact h156) (by rw [hX]) dL_law_1009 ?_
        refine AW.aload_n dL_law_1010 rfl ?_
        refine AW.iload_n dL_law_1011 rfl ?_
        refine AW.iconst (v := (2 : Int32)) dL_law_1012 (by decide) ?_
        refine AW.iadd dL_law_1013 ?_
        obtain ⟨h157, hf⟩ := gd_split hf
        refine AW.scr (x := (X (tn (i4 + (2 : Int32))))) (by rw [hL]; exact h157) (by rw [hX]) dL_law_1014 ?_
        refine AW.aload_n dL_law_1015 rfl ?_
        refine AW.iload_n dL_law_1016 rfl ?_
        refine AW.iconst (v := (3 : Int32)) dL_law_1017 (by decide) ?_
        refine AW.iadd dL_law_1018 ?_
        obtain ⟨h158, hf⟩ := gd_split hf
        refine AW.scr (x := (X (tn (i4 + (3 : Int32))))) (by rw [hL]; exact h158) (by rw [hX]) dL_law_1019 ?_
        obtain ⟨v159, gv159, hf⟩ := ob_split hf
        refine TW.invv (as := [.int (X (tn (i4 + (1 : Int32)))), .int (X (tn (i4 + (2 : Int32)))), .int (X (tn (i4 + (3 : Int32))))]) (rest := [.int v155.2]) viL_122_12 hs.k89 dL_law_1020 rfl rfl (Nat.le_of_ble_eq_true rfl) (c_X12_cell hs gv159 ?_)
        show AW G (mL nm) (d + 75) (6 * (n + 1)) (163 * (n + 1)) K 1023 [some (.ref 25), some (.ref 32), some (.ref 89), some (.int i4)] [.int v159.2, .int v155.2] (v159.1, J2, R3)
        refine AW.icmp_eq (tgt := 1177) dL_law_1023 (by decide) (fun hc => ?_) (fun hc => ?_)
        · have hf := (if_pos hc).symm.trans hf
          refine AW.iinc (v := (i4 + (6 : Int32))) (ls' := [some (.ref 25), some (.ref 32), some (.ref 89), some (.int (i4 + (6 : Int32)))]) dL_law_1177 rfl rfl (Nat.le_of_ble_eq_true rfl) rfl ?_
          refine AW.goto (tgt := 18) dL_law_1180 (by decide) ?_
          exact AW.le (c' := 6 * n) (n' := 163 * n) (by omega) (by omega) (AW.weak _ (by exact (And.intro rfl (And.intro rfl (And.intro rfl (And.intro rfl trivial))))) (ih v159.1 J2 R3 (i4 + (6 : Int32)) hs hf hE))
        · have hf := (if_neg hc).symm.trans hf
          refine AW.iconst (v := (0 : Int32)) dL_law_1026 (by decide) ?_
          obtain rfl := Option.some.inj hf
          exact AW.zret (st := []) dL_law_1027 rfl (Or.inl rfl) ((show Sh R3 → _ from hE) hs)
      have hf := (if_neg hc24).symm.trans hf
      by_cases hc25 : ((X (tn i4)) &&& (31 : Int32)) = (25 : Int32)
      · have hf := (if_pos hc25).symm.trans hf
        refine AW.swIn (tgt := 1028) dL_law_33 (by rw [hc25]; decide) (by rw [hc25]; decide) (by rw [hc25]; rfl) (by decide) ?_
        refine AW.aload_n dL_law_1028 rfl ?_
        refine AW.aload_n dL_law_1029 rfl ?_
        refine AW.iload_n dL_law_1030 rfl ?_
        refine AW.iconst (v := (1 : Int32)) dL_law_1031 (by decide) ?_
        refine AW.iadd dL_law_1032 ?_
        obtain ⟨h160, hf⟩ := gd_split hf
        refine AW.scr (x := (X (tn (i4 + (1 : Int32))))) (by rw [hL]; exact h160) (by rw [hX]) dL_law_1033 ?_
        refine AW.aload_n dL_law_1034 rfl ?_
        refine AW.iload_n dL_law_1035 rfl ?_
        refine AW.iconst (v := (2 : Int32)) dL_law_1036 (by decide) ?_
        refine AW.iadd dL_law_1037 ?_
        obtain ⟨h161, hf⟩ := gd_split hf
        refine AW.scr (x := (X (tn (i4 + (2 : Int32))))) (by rw [hL]; exact h161) (by rw [hX]) dL_law_1038 ?_
        refine AW.aload_n dL_law_1039 rfl ?_
        refine AW.iload_n dL_law_1040 rfl ?_
        refine AW.iconst (v := (3 : Int32)) dL_law_1041 (by decide) ?_
        refine AW.iadd dL_law_1042 ?_
        obtain ⟨h162, hf⟩ := gd_split hf
        refine AW.scr (x := (X (tn (i4 + (3 : Int32))))) (by rw [hL]; exact h162) (by rw [hX]) dL_law_1043 ?_
        refine AW.aload_n dL_law_1044 rfl ?_
        refine AW.iload_n dL_law_1045 rfl ?_
        refine AW.iconst (v := (4 : Int32)) dL_law_1046 (by decide) ?_
        refine AW.iadd dL_law_1047 ?_
        obtain ⟨h163, hf⟩ := gd_split hf
        refine AW.scr (x := (X (tn (i4 + (4 : Int32))))) (by rw [hL]; exact h163) (by rw [hX]) dL_law_1048 ?_
        refine AW.aload_n dL_law_1049 rfl ?_
        refine AW.iload_n dL_law_1050 rfl ?_
        refine AW.iconst (v := (5 : Int32)) dL_law_1051 (by decide) ?_
        refine AW.iadd dL_law_1052 ?_
        obtain ⟨h164, hf⟩ := gd_split hf
        refine AW.scr (x := (X (tn (i4 + (5 : Int32))))) (by rw [hL]; exact h164) (by rw [hX]) dL_law_1053 ?_
        obtain ⟨v165, gv165, hf⟩ := ob_split hf
        refine TW.invv (as := [.int (X (tn (i4 + (1 : Int32)))), .int (X (tn (i4 + (2 : Int32)))), .int (X (tn (i4 + (3 : Int32)))), .int (X (tn (i4 + (4 : Int32)))), .int (X (tn (i4 + (5 : Int32))))]) (rest := []) viL_123_11 hs.k32 dL_law_1054 rfl rfl (Nat.le_of_ble_eq_true rfl) (c_X11_copy hs gv165 ?_)
        show AW G (mL nm) (d + 75) (6 * (n + 1)) (163 * (n + 1)) K 1057 [some (.ref 25), some (.ref 32), some (.ref 89), some (.int i4)] [.int v165.2] (v165.1, J2, R3)
        refine AW.aload_n dL_law_1057 rfl ?_
        refine AW.aload_n dL_law_1058 rfl ?_
        refine AW.iload_n dL_law_1059 rfl ?_
        refine AW.iconst (v := (1 : Int32)) dL_law_1060 (by decide) ?_
        refine AW.iadd dL_law_1061 ?_
        obtain ⟨h166, hf⟩ := gd_split hf
        refine AW.scr (x := (X (tn (i4 + (1 : Int32))))) (by rw [hL]; exact h166) (by rw [hX]) dL_law_1062 ?_
        refine AW.aload_n dL_law_1063 rfl ?_
        refine AW.iload_n dL_law_1064 rfl ?_
        refine AW.iconst (v := (2 : Int32)) dL_law_1065 (by decide) ?_
        refine AW.iadd dL_law_1066 ?_
        obtain ⟨h167, hf⟩ := gd_split hf
        refine AW.scr (x := (X (tn (i4 + (2 : Int32))))) (by rw [hL]; exact h167) (by rw [hX]) dL_law_1067 ?_
        refine AW.aload_n dL_law_1068 rfl ?_
        refine AW.iload_n dL_law_1069 rfl ?_
        refine AW.iconst (v := (3 : Int32)) dL_law_1070 (by decide) ?_
        refine AW.iadd dL_law_1071 ?_
        obtain ⟨h168, hf⟩ := gd_split hf
        refine AW.scr (x := (X (tn (i4 + (3 : Int32))))) (by rw [hL]; exact h168) (by rw [hX]) dL_law_1072 ?_
        refine AW.aload_n dL_law_1073 rfl ?_
        refine AW.iload_n dL_law_1074 rfl ?_
        refine AW.iconst (v := (4 : Int32)) dL_law_1075 (by decide) ?_
        refine AW.iadd dL_law_1076 ?_
        obtain ⟨h169, hf⟩ := gd_split hf
        refine AW.scr (x := (X (tn (i4 + (4 : Int32))))) (by rw [hL]; exact h169) (by rw [hX]) dL_law_1077 ?_
        refine AW.aload_n dL_law_1078 rfl ?_
        refine AW.iload_n dL_law_1079 rfl ?_
        refine AW.iconst (v := (5 : Int32)) dL_law_1080 (by decide) ?_
        refine AW.iadd dL_law_1081 ?_
        obtain ⟨h170, hf⟩ := gd_split hf
        refine AW.scr (x := (X (tn (i4 + (5 : Int32))))) (by rw [hL]; exact h170) (by rw [hX]) dL_law_1082 ?_
        obtain ⟨v171, gv171, hf⟩ := ob_split hf
        refine TW.invv (as := [.int (X (tn (i4 + (1 : Int32)))), .int (X (tn (i4 + (2 : Int32)))), .int (X (tn (i4 + (3 : Int32)))), .int (X (tn (i4 + (4 : Int32)))), .int (X (tn (i4 + (5 : Int32))))]) (rest := [.int v165.2]) viL_127_12 hs.k89 dL_law_1083 rfl rfl (Nat.le_of_ble_eq_true rfl) (c_X12_copy hs gv171 ?_)
        show AW G (mL nm) (d + 75) (6 * (n + 1)) (163 * (n + 1)) K 1086 [some (.ref 25), some (.ref 32), some (.ref 89), some (.int i4)] [.int v171.2, .int v165.2] (v171.1, J2, R3)
        refine AW.icmp_eq (tgt := 1177) dL_law_1086 (by decide) (fun hc => ?_) (fun hc => ?_)
        · have hf := (if_pos hc).symm.trans hf
          refine AW.iinc (v := (i4 + (6 : Int32))) (ls' := [some (.ref 25), some (.ref 32), some (.ref 89), some (.int (i4 + (6 : Int32)))]) dL_law_1177 rfl rfl (Nat.le_of_ble_eq_true rfl) rfl ?_
          refine AW.goto (tgt := 18) dL_law_1180 (by decide) ?_
          exact AW.le (c' := 6 * n) (n' := 163 * n) (by omega) (by omega) (AW.weak _ (by exact (And.intro rfl (And.intro rfl (And.intro rfl (And.intro rfl trivial))))) (ih v171.1 J2 R3 (i4 + (6 : Int32)) hs hf hE))
        · have hf := (if_neg hc).symm.trans hf
          refine AW.iconst (v := (0 : Int32)) dL_law_1089 (by decide) ?_
          obtain rfl := Option.some.inj hf
          exact AW.zret (st := []) dL_law_1090 rfl (Or.inl rfl) ((show Sh R3 → _ from hE) hs)
      have hf := (if_neg hc25).symm.trans hf
      by_cases hc26 : ((X (tn i4)) &&& (31 : Int32)) = (26 : Int32)
      · have hf := (if_pos hc26).symm.trans hf
        refine AW.swIn (tgt := 1091) dL_law_33 (by rw [hc26]; decide) (by rw [hc26]; decide) (by rw [hc26]; rfl) (by decide) ?_
        refine AW.aload_n dL_law_1091 rfl ?_
        refine AW.aload_n dL_law_1092 rfl ?_
        refine AW.iload_n dL_law_1093 rfl ?_
        refine AW.iconst (v := (1 : Int32)) dL_law_1094 (by decide) ?_
        refine AW.iadd dL_law_1095 ?_
        obtain ⟨h172, hf⟩ := gd_split hf
        refine AW.scr (x := (X (tn (i4 + (1 : Int32))))) (by rw [hL]; exact h172) (by rw [hX]) dL_law_1096 ?_
        refine AW.aload_n dL_law_1097 rfl ?_
        refine AW.iload_n dL_law_1098 rfl ?_
        refine AW.iconst (v := (2 : Int32)) dL_law_1099 (by decide) ?_
        refine AW.iadd dL_law_1100 ?_
        obtain ⟨h173, hf⟩ := gd_split hf
        refine AW.scr (x := (X (tn (i4 + (2 : Int32))))) (by rw [hL]; exact h173) (by rw [hX]) dL_law_1101 ?_
        refine AW.aload_n dL_law_1102 rfl ?_
        refine AW.iload_n dL_law_1103 rfl ?_
        refine AW.iconst (v := (3 : Int32)) dL_law_1104 (by decide) ?_
        refine AW.iadd dL_law_1105 ?_
        obtain ⟨h174, hf⟩ := gd_split hf
        refine AW.scr (x := (X (tn (i4 + (3 : Int32))))) (by rw [hL]; exact h174) (by rw [hX]) dL_law_1106 ?_
        refine AW.aload_n dL_law_1107 rfl ?_
        refine AW.iload_n dL_law_1108 rfl ?_
        refine AW.iconst (v := (4 : Int32)) dL_law_1109 (by decide) ?_
        refine AW.iadd dL_law_1110 ?_
        obtain ⟨h175, hf⟩ := gd_split hf
        refine AW.scr (x := (X (tn (i4 + (4 : Int32))))) (by rw [hL]; exact h175) (by rw [hX]) dL_law_1111 ?_
        obtain ⟨v176, gv176, hf⟩ := ob_split hf
        refine TW.invv (as := [.int (X (tn (i4 + (1 : Int32)))), .int (X (tn (i4 + (2 : Int32)))), .int (X (tn (i4 + (3 : Int32)))), .int (X (tn (i4 + (4 : Int32))))]) (rest := []) viL_128_11 hs.k32 dL_law_1112 rfl rfl (Nat.le_of_ble_eq_true rfl) (c_X11_men hs gv176 ?_)
        show AW G (mL nm) (d + 75) (6 * (n + 1)) (163 * (n + 1)) K 1115 [some (.ref 25), some (.ref 32), some (.ref 89), some (.int i4)] [.int v176.2] (v176.1, J2, R3)
        refine AW.aload_n dL_law_1115 rfl ?_
        refine AW.aload_n dL_law_1116 rfl ?_
        refine AW.iload_n dL_law_1117 rfl ?_
        refine AW.iconst (v := (1 : Int32)) dL_law_1118 (by decide) ?_
        refine AW.iadd dL_law_1119 ?_
        obtain ⟨h177, hf⟩ := gd_split hf
        refine AW.scr (x := (X (tn (i4 + (1 : Int32))))) (by rw [hL]; exact h177) (by rw [hX]) dL_law_1120 ?_
        refine AW.aload_n dL_law_1121 rfl ?_
        refine AW.iload_n dL_law_1122 rfl ?_
        refine AW.iconst (v := (2 : Int32)) dL_law_1123 (by decide) ?_
        refine AW.iadd dL_law_1124 ?_
        obtain ⟨h178, hf⟩ := gd_split hf
        refine AW.scr (x := (X (tn (i4 + (2 : Int32))))) (by rw [hL]; exact h178) (by rw [hX]) dL_law_1125 ?_
        refine AW.aload_n dL_law_1126 rfl ?_
        refine AW.iload_n dL_law_1127 rfl ?_
        refine AW.iconst (v := (3 : Int32)) dL_law_1128 (by decide) ?_
        refine AW.iadd dL_law_1129 ?_
        obtain ⟨h179, hf⟩ := gd_split hf
        refine AW.scr (x := (X (tn (i4 + (3 : Int32))))) (by rw [hL]; exact h179) (by rw [hX]) dL_law_1130 ?_
        refine AW.aload_n dL_law_1131 rfl ?_
        refine AW.iload_n dL_law_1132 rfl ?_
        refine AW.iconst (v := (4 : Int32)) dL_law_1133 (by decide) ?_
        refine AW.iadd dL_law_1134 ?_
        obtain ⟨h180, hf⟩ := gd_split hf
        refine AW.scr (x := (X (tn (i4 + (4 : Int32))))) (by rw [hL]; exact h180) (by rw [hX]) dL_law_1135 ?_
        obtain ⟨v181, gv181, hf⟩ := ob_split hf
        refine TW.invv (as := [.int (X (tn (i4 + (1 : Int32)))), .int (X (tn (i4 + (2 : Int32)))), .int (X (tn (i4 + (3 : Int32)))), .int (X (tn (i4 + (4 : Int32))))]) (rest := [.int v176.2]) viL_131_12 hs.k89 dL_law_1136 rfl rfl (Nat.le_of_ble_eq_true rfl) (c_X12_men hs gv181 ?_)
        show AW G (mL nm) (d + 75) (6 * (n + 1)) (163 * (n + 1)) K 1139 [some (.ref 25), some (.ref 32), some (.ref 89), some (.int i4)] [.int v181.2, .int v176.2] (v181.1, J2, R3)
        refine AW.icmp_eq (tgt := 1177) dL_law_1139 (by decide) (fun hc => ?_) (fun hc => ?_)
        · have hf := (if_pos hc).symm.trans hf
          refine AW.iinc (v := (i4 + (6 : Int32))) (ls' := [some (.ref 25), some (.ref 32), some (.ref 89), some (.int (i4 + (6 : Int32)))]) dL_law_1177 rfl rfl (Nat.le_of_ble_eq_true rfl) rfl ?_
          refine AW.goto (tgt := 18) dL_law_1180 (by decide) ?_
          exact AW.le (c' := 6 * n) (n' := 163 * n) (by omega) (by omega) (AW.weak _ (by exact (And.intro rfl (And.intro rfl (And.intro rfl (And.intro rfl trivial))))) (ih v181.1 J2 R3 (i4 + (6 : Int32)) hs hf hE))
        · have hf := (if_neg hc).symm.trans hf
          refine AW.iconst (v := (0 : Int32)) dL_law_1142 (by decide) ?_
          obtain rfl := Option.some.inj hf
          exact AW.zret (st := []) dL_law_1143 rfl (Or.inl rfl) ((show Sh R3 → _ from hE) hs)
      have hf := (if_neg hc26).symm.trans hf
      by_cases hc27 : ((X (tn i4)) &&& (31 : Int32)) = (27 : Int32)
      · have hf := (if_pos hc27).symm.trans hf
        refine AW.swIn (tgt := 1144) dL_law_33 (by rw [hc27]; decide) (by rw [hc27]; decide) (by rw [hc27]; rfl) (by decide) ?_
        refine AW.aload_n dL_law_1144 rfl ?_
        refine AW.aload_n dL_law_1145 rfl ?_
        refine AW.iload_n dL_law_1146 rfl ?_
        refine AW.iconst (v := (1 : Int32)) dL_law_1147 (by decide) ?_
        refine AW.iadd dL_law_1148 ?_
        obtain ⟨h182, hf⟩ := gd_split hf
        refine AW.scr (x := (X (tn (i4 + (1 : Int32))))) (by rw [hL]; exact h182) (by rw [hX]) dL_law_1149 ?_
        refine AW.aload_n dL_law_1150 rfl ?_
        refine AW.iload_n dL_law_1151 rfl ?_
        refine AW.iconst (v := (2 : Int32)) dL_law_1152 (by decide) ?_
        refine AW.iadd dL_law_1153 ?_
        obtain ⟨h183, hf⟩ := gd_split hf
        refine AW.scr (x := (X (tn (i4 + (2 : Int32))))) (by rw [hL]; exact h183) (by rw [hX]) dL_law_1154 ?_
        obtain ⟨v184, gv184, hf⟩ := ob_split hf
        refine TW.invv (as := [.int (X (tn (i4 + (1 : Int32)))), .int (X (tn (i4 + (2 : Int32))))]) (rest := []) viL_132_11 hs.k32 dL_law_1155 rfl rfl (Nat.le_of_ble_eq_true rfl) (c_X11_taken hs gv184 ?_)
        show AW G (mL nm) (d + 75) (6 * (n + 1)) (163 * (n + 1)) K 1158 [some (.ref 25), some (.ref 32), some (.ref 89), some (.int i4)] [.int v184] (I1, J2, R3)
        refine AW.aload_n dL_law_1158 rfl ?_
        refine AW.aload_n dL_law_1159 rfl ?_
        refine AW.iload_n dL_law_1160 rfl ?_
        refine AW.iconst (v := (1 : Int32)) dL_law_1161 (by decide) ?_
        refine AW.iadd dL_law_1162 ?_
        obtain ⟨h185, hf⟩ := gd_split hf
        refine AW.scr (x := (X (tn (i4 + (1 : Int32))))) (by rw [hL]; exact h185) (by rw [hX]) dL_law_1163 ?_
        refine AW.aload_n dL_law_1164 rfl ?_
        refine AW.iload_n dL_law_1165 rfl ?_
        refine AW.iconst (v := (2 : Int32)) dL_law_1166 (by decide) ?_
        refine AW.iadd dL_law_1167 ?_
        obtain ⟨h186, hf⟩ := gd_split hf
        refine AW.scr (x := (X (tn (i4 + (2 : Int32))))) (by rw [hL]; exact h186) (by rw [hX]) dL_law_1168 ?_
        obtain ⟨v187, gv187, hf⟩ := ob_split hf
        refine TW.invv (as := [.int (X (tn (i4 + (1 : Int32)))), .int (X (tn (i4 + (2 : Int32))))]) (rest := [.int v184]) viL_135_12 hs.k89 dL_law_1169 rfl rfl (Nat.le_of_ble_eq_true rfl) (c_X12_taken hs gv187 ?_)
        show AW G (mL nm) (d + 75) (6 * (n + 1)) (163 * (n + 1)) K 1172 [some (.ref 25), some (.ref 32), some (.ref 89), some (.int i4)] [.int v187, .int v184] (I1, J2, R3)
        refine AW.icmp_eq (tgt := 1177) dL_law_1172 (by decide) (fun hc => ?_) (fun hc => ?_)
        · have hf := (if_pos hc).symm.trans hf
          refine AW.iinc (v := (i4 + (6 : Int32))) (ls' := [some (.ref 25), some (.ref 32), some (.ref 89), some (.int (i4 + (6 : Int32)))]) dL_law_1177 rfl rfl (Nat.le_of_ble_eq_true rfl) rfl ?_
          refine AW.goto (tgt := 18) dL_law_1180 (by decide) ?_
          exact AW.le (c' := 6 * n) (n' := 163 * n) (by omega) (by omega) (AW.weak _ (by exact (And.intro rfl (And.intro rfl (And.intro rfl (And.intro rfl trivial))))) (ih I1 J2 R3 (i4 + (6 : Int32)) hs hf hE))
        · have hf := (if_neg hc).symm.trans hf
          refine AW.iconst (v := (0 : Int32)) dL_law_1175 (by decide) ?_
          obtain rfl := Option.some.inj hf
          exact AW.zret (st := []) dL_law_1176 rfl (Or.inl rfl) ((show Sh R3 → _ from hE) hs)
      have hf := (if_neg hc27).symm.trans hf
      have KD : AW G (mL nm) (d + 75) (6 * (n + 1)) (163 * (n + 1)) K 1177 [some (.ref 25), some (.ref 32), some (.ref 89), some (.int i4)] [] (I1, J2, R3) := by
        refine AW.iinc (v := (i4 + (6 : Int32))) (ls' := [some (.ref 25), some (.ref 32), some (.ref 89), some (.int (i4 + (6 : Int32)))]) dL_law_1177 rfl rfl (Nat.le_of_ble_eq_true rfl) rfl ?_
        refine AW.goto (tgt := 18) dL_law_1180 (by decide) ?_
        exact AW.le (c' := 6 * n) (n' := 163 * n) (by omega) (by omega) (AW.weak _ (by exact (And.intro rfl (And.intro rfl (And.intro rfl (And.intro rfl trivial))))) (ih I1 J2 R3 (i4 + (6 : Int32)) hs hf hE))
      have hc0 : ¬ (((X (tn i4)) &&& (31 : Int32))).toInt = 0 := fun q => hc0 (Int32.toInt_inj.mp q)
      have hc1 : ¬ (((X (tn i4)) &&& (31 : Int32))).toInt = 1 := fun q => hc1 (Int32.toInt_inj.mp q)
      have hc2 : ¬ (((X (tn i4)) &&& (31 : Int32))).toInt = 2 := fun q => hc2 (Int32.toInt_inj.mp q)
      have hc3 : ¬ (((X (tn i4)) &&& (31 : Int32))).toInt = 3 := fun q => hc3 (Int32.toInt_inj.mp q)
      have hc4 : ¬ (((X (tn i4)) &&& (31 : Int32))).toInt = 4 := fun q => hc4 (Int32.toInt_inj.mp q)
      have hc5 : ¬ (((X (tn i4)) &&& (31 : Int32))).toInt = 5 := fun q => hc5 (Int32.toInt_inj.mp q)
      have hc6 : ¬ (((X (tn i4)) &&& (31 : Int32))).toInt = 6 := fun q => hc6 (Int32.toInt_inj.mp q)
      have hc7 : ¬ (((X (tn i4)) &&& (31 : Int32))).toInt = 7 := fun q => hc7 (Int32.toInt_inj.mp q)
      have hc8 : ¬ (((X (tn i4)) &&& (31 : Int32))).toInt = 8 := fun q => hc8 (Int32.toInt_inj.mp q)
      have hc9 : ¬ (((X (tn i4)) &&& (31 : Int32))).toInt = 9 := fun q => hc9 (Int32.toInt_inj.mp q)
      have hc10 : ¬ (((X (tn i4)) &&& (31 : Int32))).toInt = 10 := fun q => hc10 (Int32.toInt_inj.mp q)
      have hc11 : ¬ (((X (tn i4)) &&& (31 : Int32))).toInt = 11 := fun q => hc11 (Int32.toInt_inj.mp q)
      have hc12 : ¬ (((X (tn i4)) &&& (31 : Int32))).toInt = 12 := fun q => hc12 (Int32.toInt_inj.mp q)
      have hc13 : ¬ (((X (tn i4)) &&& (31 : Int32))).toInt = 13 := fun q => hc13 (Int32.toInt_inj.mp q)
      have hc14 : ¬ (((X (tn i4)) &&& (31 : Int32))).toInt = 14 := fun q => hc14 (Int32.toInt_inj.mp q)
      have hc15 : ¬ (((X (tn i4)) &&& (31 : Int32))).toInt = 15 := fun q => hc15 (Int32.toInt_inj.mp q)
      have hc16 : ¬ (((X (tn i4)) &&& (31 : Int32))).toInt = 16 := fun q => hc16 (Int32.toInt_inj.mp q)
      have hc17 : ¬ (((X (tn i4)) &&& (31 : Int32))).toInt = 17 := fun q => hc17 (Int32.toInt_inj.mp q)
      have hc18 : ¬ (((X (tn i4)) &&& (31 : Int32))).toInt = 18 := fun q => hc18 (Int32.toInt_inj.mp q)
      have hc19 : ¬ (((X (tn i4)) &&& (31 : Int32))).toInt = 19 := fun q => hc19 (Int32.toInt_inj.mp q)
      have hc20 : ¬ (((X (tn i4)) &&& (31 : Int32))).toInt = 20 := fun q => hc20 (Int32.toInt_inj.mp q)
      have hc21 : ¬ (((X (tn i4)) &&& (31 : Int32))).toInt = 21 := fun q => hc21 (Int32.toInt_inj.mp q)
      have hc22 : ¬ (((X (tn i4)) &&& (31 : Int32))).toInt = 22 := fun q => hc22 (Int32.toInt_inj.mp q)
      have hc23 : ¬ (((X (tn i4)) &&& (31 : Int32))).toInt = 23 := fun q => hc23 (Int32.toInt_inj.mp q)
      have hc24 : ¬ (((X (tn i4)) &&& (31 : Int32))).toInt = 24 := fun q => hc24 (Int32.toInt_inj.mp q)
      have hc25 : ¬ (((X (tn i4)) &&& (31 : Int32))).toInt = 25 := fun q => hc25 (Int32.toInt_inj.mp q)
      have hc26 : ¬ (((X (tn i4)) &&& (31 : Int32))).toInt = 26 := fun q => hc26 (Int32.toInt_inj.mp q)
      have hc27 : ¬ (((X (tn i4)) &&& (31 : Int32))).toInt = 27 := fun q => hc27 (Int32.toInt_inj.mp q)
      exact AW.swOut dL_law_33 (by omega) (by decide) KD
