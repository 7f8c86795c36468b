theorem start_K {s : State} {args : Array Value} (hts : ∀ w ∈ lw_tbl, w.before args s = true) : ∃ (D : va_G) (cA : Nat → ClassId), va_K D cls [(cA 1, .int), (cA 1, .int), (cA 2, .long), (cA 3, .byte), (cA 4, .object RX6), (cA 5, .object RX2), (cA 6, .object RX7), (cA 7, .array .int)] s := by
  have hW : ∀ w ∈ WS, w.before args s = true := fun w hw => hts w (ws_tbl hw)
  obtain ⟨D, hD⟩ := kn_cls hW
  obtain ⟨e1, e2, e3, e4⟩ := en_ao hts
  obtain ⟨a1, b1⟩ := kn_prim (Or.inl rfl) (hW _ ac_int)
  obtain ⟨a2, b2⟩ := kn_prim (Or.inr (Or.inl rfl)) (hW _ ac_long)
  obtain ⟨a3, b3⟩ := kn_prim (Or.inr (Or.inr rfl)) (hW _ ac_byte)
  obtain ⟨a4, b4⟩ := kn_obj e1
  obtain ⟨a5, b5⟩ := kn_obj e2
  obtain ⟨a6, b6⟩ := kn_obj e3
  obtain ⟨a7, b7⟩ := kn_arr e4
  refine ⟨D, fun k => [a1, a1, a2, a3, a4, a5, a6, a7].getD k a1, hD, fun k q hq => ?_⟩
  match k, hq with
  | 0, hq => cases hq; exact b1
  | 1, hq => cases hq; exact b1
  | 2, hq => cases hq; exact b2
  | 3, hq => cases hq; exact b3
  | 4, hq => cases hq; exact b4
  | 5, hq => cases hq; exact b5
  | 6, hq => cases hq; exact b6
  | 7, hq => cases hq; exact b7
  | k + 8, hq => cases hq
theorem lz_code : code = cL_law := rfl
theorem whole_of {p : Program} {e : Env} {s : State} {m : MethodId} {below : List Frame} {meth : Method} {c : Code} (l : Launch) {b L : Nat} {xs : Nat → Int32} (C0 : lw_At p s m meth c b L xs)
    (hp : ∃ (N n : Nat) (o : (Nat → Nat → Int32) × (Nat → Nat → Int64) × Rh), n ≤ 600 ∧ f_L_law_18 N L xs n iZ jA ρA 0 = some (Sum.inr o)) :
    W p l e room_1 s m #[Value.ref b] below meth c s.heap [] 0 0 (lw_Z below #[Value.ref b] s) (entryFrame m ([Value.ref b] : List Value).toArray 4) := by
  obtain ⟨hx, hb, hr, hml, hown, hts, hX, hbl, hlk, hg⟩ := C0
  obtain ⟨N, n, o, hn, hf⟩ := hp
  obtain ⟨D, cA, hK⟩ := start_K hts
  have hT : va_T .int b L (fun j => .int (xs j)) (fun q => s.heap.size ≤ q) s s.heap := by
    obtain ⟨scr, x1, x2, x3, x4, x5⟩ := hX
    exact ⟨scr, x1, x2, x3, by omega, by rw [x4], x5, by omega⟩
  obtain ⟨ext, he, hE⟩ := en_Ex hts hg hT D cA
  have A := law_aw (nm := meth.name) (G := (s.heap.size, D, cA, ext, L, xs)) (d := 0) hn hf
  have hl := lv_entry [Value.ref b] (n := 4) (Nat.le_of_ble_eq_true rfl)
  rw [lg_entry_eq]
  generalize hL' : (lg_sl [Value.ref b] ++ List.replicate (4 - (lg_sl [Value.ref b]).length) Slot.unset).toArray = Lo at hl ⊢
  refine A p l e room_1 s m _ below meth c _ s.heap [] 0 0 Lo ⟨hx, hb, hml, hown, fun w hw => hts w (ws_tbl hw), rfl, ⟨Nat.le_of_ble_eq_true rfl, Nat.le_of_ble_eq_true rfl⟩, hK, hE, Nat.le_refl _, ?_⟩ (Nat.le_of_ble_eq_true rfl) (Nat.le_of_ble_eq_true rfl) ⟨rfl, ?_, ?_⟩ ⟨Nat.le_refl _, fun q _ _ => rfl, fun q hq => by cases hq⟩ ?_
  · intro v h' H locs pc Lx hR hv hH' hS
    subst hv
    have hd : decode code pc = .ok (.ireturn, 1) := by
      rcases hR with ⟨h, _⟩ | ⟨x, ty, _, hd, _⟩ | ⟨x, h, _⟩ | ⟨q, h, _⟩
      · cases h
      · exact hd
      · cases h
      · cases q <;> cases h
    exact va_forget (fun q hq => hS.2.2 q hq) (lw_ret hx hb hr hlk hd)
  · intro a ha
    exact absurd (show (kdn 0 a).1 = 9 by unfold kdn; rw [if_neg (by omega)]) ha
  · intro k q hq
    cases hq
  · refine ⟨hl.1, hl.2.1, fun i v hi => ?_⟩
    match i, hi with
    | 0, hi =>
      cases hi
      subst he
      have h2 := argL_at (s.heap.size, D, cA, ext, L, xs) [.ref 25] 0 0 (.ref 25) rfl
      exact hl.2.2 _ h2
    | 1, hi => cases hi
    | 2, hi => cases hi
    | 3, hi => cases hi
    | i + 4, hi => cases hi
