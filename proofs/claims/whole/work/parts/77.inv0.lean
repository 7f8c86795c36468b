/-! ===== the pure layer: the invariant at the start ===== -/
theorem inv_A : Inv ρA iZ jA := by
  have e0 : iZ 89 0 = 0 := by decide +kernel
  have e9 : iZ 89 9 = 0 := by decide +kernel
  have e17 : iZ 89 17 = 1 := by decide +kernel
  have eA : ρA.1 = rA := rfl
  have k34 : rA 34 0 = some 41 := by decide +kernel
  have k41 : rA 41 1 = some 40 := by decide +kernel
  have k42 : rA 42 6 = some 41 := by decide +kernel
  have k32 : rA 32 1 = none := by decide +kernel
  refine ⟨shA, ?_, ?_, ?_, ?_, ?_, ?_, ?_, ?_, ?_, ?_⟩
  · refine ⟨by decide +kernel, ?_, by decide +kernel, fun k hk => ?_, fun _ => ?_⟩
    · rw [e0]; exact ⟨by decide, by decide⟩
    · rw [e0] at hk
      have : (0 : Int32).toInt = 0 := rfl
      omega
    · rw [e0]
      have : (iZ 89 25) = 0 := by decide +kernel
      rw [this]; decide
  · unfold vTold bw
    decide +kernel
  · unfold vDays bw
    decide +kernel
  · unfold vTape bw
    decide +kernel
  · unfold vSheet bw
    decide +kernel
  · refine ⟨by decide +kernel, ?_, fun r hr => ⟨fun hl => ?_, fun _ => ?_⟩⟩
    · rw [e9]; exact ⟨by decide, by decide⟩
    · rw [e9] at hl
      have : (0 : Int32).toInt = 0 := rfl
      omega
    · have key : ∀ r, r < 8 → rA 33 r = none := by decide +kernel
      rw [eA]; exact key r hr
  · refine ⟨by decide +kernel, ?_, fun t ht => ⟨fun hl => ?_, fun hl => ?_⟩⟩
    · rw [e17]; exact ⟨by decide, by decide⟩
    · rw [e17] at hl
      have : (1 : Int32).toInt = 1 := rfl
      have t0 : t = 0 := by omega
      subst t0
      refine ⟨41, by rw [eA]; exact k34, 40, 3, 6, by decide +kernel, by rw [eA]; exact k41, by decide +kernel, by decide +kernel, by decide +kernel, by decide +kernel, by decide +kernel, by decide +kernel, by decide, by decide, ?_, ?_, ?_, Or.inl ⟨rfl, rfl⟩⟩
      · unfold cmR bw
        decide +kernel
      · refine ⟨fun k => if k = 0 then 0 else if k = 1 then 1 else if k = 2 then 2 else 1, rfl, rfl, by decide, ?_⟩
        have key : ∀ k, k < 3 → 0 ≤ k → dpR (iZ 40 k) (if k = 0 then 0 else if k = 1 then 1 else if k = 2 then 2 else 1) (if k + 1 = 0 then 0 else if k + 1 = 1 then 1 else if k + 1 = 2 then 2 else 1) := by
          unfold dpR bw
          decide +kernel
        exact fun k h1 h2 => key k h2 h1
      · refine ⟨fun k => if k = 3 then 0 else if k = 4 then 1 else if k = 5 then 2 else 1, rfl, rfl, by decide, ?_⟩
        have key : ∀ k, k < 6 → 3 ≤ k → dpR (iZ 40 k) (if k = 3 then 0 else if k = 4 then 1 else if k = 5 then 2 else 1) (if k + 1 = 3 then 0 else if k + 1 = 4 then 1 else if k + 1 = 5 then 2 else 1) := by
          unfold dpR bw
          decide +kernel
        exact fun k h1 h2 => key k h2 h1
    · rw [e17] at hl
      have : (1 : Int32).toInt = 1 := rfl
      have key : ∀ t, t < 6 → 1 ≤ t → rA 34 t = none := by decide +kernel
      rw [eA]; exact key t ht (by omega)
  · refine ⟨0, by rw [e17]; decide, by decide +kernel, ?_⟩
    rw [eA, k42, k34]
  · refine Or.inl ⟨?_, by decide +kernel⟩
    rw [eA]; exact k32
  · unfold vWords
    decide +kernel
