theorem start_K {s : State} {args : Array Value} (hts : ∀ w ∈ lw_tbl, w.before args s = true) : ∃ (D : va_G) (cA : Nat → ClassId), va_K D cls [(cA 1, .int), (cA 1, .int), (cA 2, .long), (cA 3, .byte), (cA 4, .object RX6), (cA 5, .object RX2), (cA 6, .object RX7), (cA 7, .array .int)] s := by
  have hW : ∀ w ∈ WS, w.before args s = true := fun w hw => hts w (ws_tbl hw)
  obtain ⟨D, hD⟩ := kn_cls hW
  obtain ⟨e1, e2, e3, e4⟩ := en_ao hts
  obtain ⟨a1, b1⟩ := kn_prim (Or.inl rfl) (hW _ ac_int)
  obtain ⟨a2, b2⟩ := kn_prim (Or.inr (Or.inl rfl)) (hW _ ac_long)
  obtain ⟨a3, b3⟩ := kn_prim (Or.inr (Or.inr rfl)) (hW _ ac_byte)
  obtain ⟨a4, b4⟩ := kn_obj e1
  obtain ⟨a5, b5⟩ := kn_obj e2
  obtain ⟨a6, b6⟩ := kn_obj e3
  obtain ⟨a7, b7⟩ := kn_arr e4
  refine ⟨D, fun k => [a1, a1, a2, a3, a4, a5, a6, a7].getD k a1, hD, fun k q hq => ?_⟩
  match k, hq with
  | 0, hq => cases hq; exact b1
  | 1, hq => cases hq; exact b1
  | 2, hq => cases hq; exact b2
  | 3, hq => cases hq; exact b3
  | 4, hq => cases hq; exact b4
  | 5, hq => cases hq; exact b5
  | 6, hq => cases hq; exact b6
  | 7, hq => cases hq; exact b7
  | k + 8, hq => cases hq
