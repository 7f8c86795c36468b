/-! ===== the entry: what the statement gives of the start ===== -/
theorem kn_prim {s : State} {args : Array Value} {t : FieldType} (ht : t = .int ∨ t = .long ∨ t = .byte) (h : (Cond.arrayClass t).before args s = true) : ∃ cA, ArrOfT s cA t ∧ va_RA s cA t := by
  obtain ⟨c, k, comp, h1, h2, h3⟩ := Cond.arrayClass_spec h
  refine ⟨c, fun n z => ⟨fun k h => (by cases h), k, h2, comp, h3⟩, ?_⟩
  rcases ht with rfl | rfl | rfl <;> exact h1
theorem kn_obj {s : State} {C : String} (h : va_AO C s) : ∃ cA, ArrOfT s cA (.object C) ∧ va_RA s cA (.object C) := by
  obtain ⟨comp, c, k, f1, f2, f3, f4, f5⟩ := Cond.arrayOver_spec (args := #[]) h
  exact ⟨c, fun n z => ⟨fun k h => (by cases h), k, f3, comp, f4⟩, k, comp, f3, f4, f1, f5⟩
theorem kn_arr {s : State} (h : zAO s) : ∃ cA, ArrOfT s cA (.array .int) ∧ va_RA s cA (.array .int) := by
  unfold zAO at h
  simp only [Cond.before, Cond.holds, Cond.value, beq_iff_eq] at h
  cases hc : s.vm.findClass (FieldType.array .int).toString with
  | none => simp [hc] at h
  | some comp =>
    simp only [hc, Option.bind_some, Option.bind_eq_some_iff, Option.map_eq_some_iff] at h
    obtain ⟨c, hi, k, hk, hb⟩ := h
    cases hkind : k.kind with
    | array component ty =>
      rw [hkind] at hb
      simp at hb
      exact ⟨c, fun n z => ⟨fun k h => (by cases h), k, hk, component, by rw [hkind, hb.1]⟩, hb.2⟩
    | _ => rw [hkind] at hb; simp at hb
theorem kn_cls {s : State} {args : Array Value} (hts : ∀ w ∈ WS, w.before args s = true) : ∃ D : va_G, ∀ (c : Nat) (q : vw_C), cls[c]? = some q → u_Kn s q.1 q.2.1 q.2.2 (D.1 c) (D.2 c) := by
  have h : ∀ c : Nat, ∃ (x : ClassId) (y : Nat → Nat), ∀ q : vw_C, cls[c]? = some q → u_Kn s q.1 q.2.1 q.2.2 x y := by
    intro c
    match c with
    | 0 => obtain ⟨x, y, k⟩ := u_known hts inX0 (hts _ w138); exact ⟨x, y, fun q hq => by cases hq; exact k⟩
    | 1 => obtain ⟨x, y, k⟩ := u_known hts inX1 (hts _ w424); exact ⟨x, y, fun q hq => by cases hq; exact k⟩
    | 2 => obtain ⟨x, y, k⟩ := u_known hts inX2 (hts _ w120); exact ⟨x, y, fun q hq => by cases hq; exact k⟩
    | 3 => obtain ⟨x, y, k⟩ := u_known hts inX3 (hts _ w397); exact ⟨x, y, fun q hq => by cases hq; exact k⟩
    | 4 => obtain ⟨x, y, k⟩ := u_known hts inX4 (hts _ w388); exact ⟨x, y, fun q hq => by cases hq; exact k⟩
    | 5 => obtain ⟨x, y, k⟩ := u_known hts inX5 (hts _ w363); exact ⟨x, y, fun q hq => by cases hq; exact k⟩
    | 6 => obtain ⟨x, y, k⟩ := u_known hts inX6 (hts _ w432); exact ⟨x, y, fun q hq => by cases hq; exact k⟩
    | 7 => obtain ⟨x, y, k⟩ := u_known hts inX7 (hts _ w255); exact ⟨x, y, fun q hq => by cases hq; exact k⟩
    | 8 => obtain ⟨x, y, k⟩ := u_known hts inX8 (hts _ w81); exact ⟨x, y, fun q hq => by cases hq; exact k⟩
    | 9 => obtain ⟨x, y, k⟩ := u_known hts inX9 (hts _ w406); exact ⟨x, y, fun q hq => by cases hq; exact k⟩
    | 10 => obtain ⟨x, y, k⟩ := u_known hts inX10 (hts _ w181); exact ⟨x, y, fun q hq => by cases hq; exact k⟩
    | 11 => obtain ⟨x, y, k⟩ := u_known hts inX11 (hts _ w69); exact ⟨x, y, fun q hq => by cases hq; exact k⟩
    | 12 => obtain ⟨x, y, k⟩ := u_known hts inX12 (hts _ w837); exact ⟨x, y, fun q hq => by cases hq; exact k⟩
    | c + 13 => exact ⟨0, fun _ => 0, fun q hq => by cases hq⟩
  exact ⟨(fun c => (h c).choose, fun c => (h c).choose_spec.choose), fun c q hq => (h c).choose_spec.choose_spec q hq⟩
