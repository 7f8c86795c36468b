/-! ===== the pure layer: the call rule itself ===== -/
def rchk (I : Nat → Nat → Int32) (s : Int32) (n : Nat) : Prop := (0 ≤ s.toInt ∧ s.toInt < 4) ∧ ¬ (I 107 (tn s)).toInt = -1 ∧ I 108 (tn s) = I 89 0 ∧ ∀ m, m < n → bw (I 109 (40 * tn s + m)) 0 50
theorem m_pre {N : Nat} (hN : 200 ≤ N) {ρ : Rh} {X : Nat → Nat → Int32} {J : Nat → Nat → Int64} {k w s : Int32} {n : Nat} (hk : 0 ≤ k.toInt ∧ k.toInt ≤ 5) (hw : 0 ≤ w.toInt ∧ w.toInt ≤ 99) (hn : X 89 0 = Int32.ofNat n) (hn8 : n ≤ 8) (hc : k = 4 → rchk X s n) : f_X12_rule N ρ X J k w s = (if X 89 9 = 8 then some (X, -4) else (if ¬ (X 89 9 < 0 ∨ 8 ≤ tn (X 89 9)) then (if ¬ (X 89 9 < 0 ∨ 8 ≤ tn (X 89 9)) then ((f_X12_rule_183 N J ρ k s N (u2 (u2 X 94 (tn (X 89 9)) k) 95 (tn (X 89 9)) w) 0).bind fun j23 => some ((u2 j23 89 9 ((j23 89 9) + 1)), (((j23 89 9) + 1) - 1))) else none) else none)) := by
  unfold f_X12_rule
  simp only [m_in, Option.bind_some, p_b01]
  rw [if_neg (by show ¬ ¬ ((0 : Int) ≤ _ ∧ _ ≤ (5 : Int)); omega), if_neg (by show ¬ ¬ ((0 : Int) ≤ _ ∧ _ ≤ (99 : Int)); omega)]
  by_cases h4 : k = 4
  · subst h4
    obtain ⟨c1, c2, c3, c4⟩ := hc rfl
    have x := p_ix (a := s) (n := 4) c1.1 (by show _ < (4 : Int); omega)
    have n1 : ¬ X 107 (tn s) = -1 := fun z => c2 (by rw [z]; rfl)
    have b3 : ¬ ¬ ((0 : Int) ≤ s.toInt ∧ s.toInt ≤ 3) := by omega
    have b3' : ¬ ¬ ((0 : Int32).toInt ≤ s.toInt ∧ s.toInt ≤ (3 : Int32).toInt) := b3
    obtain ⟨r, e1, e2⟩ := m_holds (N := N) (ρ := ρ) (J := J) (p2 := w) c1.1 c1.2 hn hn8 n 0 N (by omega) (by omega)
    rcases e2 with ⟨e2, e3⟩ | ⟨e2, e3⟩
    · subst e2
      rw [show Int32.ofNat 0 = (0 : Int32) from rfl] at e1
      simp only [if_true, if_neg b3', Option.bind_some, scase_r, if_pos x, if_neg n1, c3, e1]
      rw [if_neg (by decide)]
    · exact absurd (fun m _ h2 => c4 m h2) e3
  · simp only [if_neg h4, Option.bind_some, scase_r, m_holds1 (show 0 < N by omega) h4]
    rw [if_neg (by decide)]
theorem rule_full {ρ : Rh} {I : Nat → Nat → Int32} {J : Nat → Nat → Int64} (N : Nat) (hN : 200 ≤ N) (h : Inv ρ I J) {k w s : Int32} {so : Option Nat} (hk : 0 ≤ k.toInt ∧ k.toInt ≤ 5) (hw9 : 0 ≤ w.toInt ∧ w.toInt ≤ 99) (hc : k = 4 → rchk I s (tn (I 89 0))) (hso : k = 4 → so = some (81 + 2 * tn s)) : ∃ I1 J1 ρ1 r I2, (if I 32 3 < 0 then some (I, J, ρ, (-4 : Int32)) else (if I 32 3 < 8 then (Option.bind (f_X11_ruleOf N ρ I J k w so) fun v7 => (if ¬ (I 32 3 < 0 ∨ 8 ≤ tn (I 32 3)) then (Option.bind v7.2.2.2 fun a9 => (if isR (v7.2.2.1.2.1 a9) then some ((u2 v7.1 32 3 ((v7.1 32 3) + 1)), v7.2.1, (u2 v7.2.2.1.1 33 (tn (I 32 3)) (some a9), v7.2.2.1.2), (((v7.1 32 3) + 1) - 1)) else none)) else none)) else some (I, J, ρ, -4))) = some (I1, J1, ρ1, r) ∧ f_X12_rule N ρ1 I1 J1 k w s = some (I2, r) ∧ Inv ρ1 I2 J1 := by
  obtain ⟨sh, hm, ht, hd, hp, hs, hr, hl, hf, hi, hw⟩ := id h
  obtain ⟨m1, m2, m3, m4, m5⟩ := id hm
  obtain ⟨r1, r2, r3⟩ := id hr
  unfold bw at m2 r2
  have hn : I 89 0 = Int32.ofNat (tn (I 89 0)) := (p_tnb m2.1).symm
  have tn0 := p_tnc (I 89 0) m2.1
  have tr := p_tnc (I 89 9) r2.1
  rw [r1, if_neg (by rw [fa_lt]; show ¬ _ < (0 : Int); omega)]
  by_cases h8 : (I 89 9).toInt = 8
  · refine ⟨I, J, ρ, -4, I, ?_, ?_, h⟩
    · rw [if_neg (by rw [fa_lt]; show ¬ _ < (8 : Int); omega)]
    · rw [m_pre hN hk hw9 hn (by omega) hc, if_pos (p_eq h8)]
  · obtain ⟨a, ea⟩ : ∃ a, a = 32 + ρ.2.2 := ⟨_, rfl⟩
    have g83 := sh.ge
    have hrn : I 89 9 = Int32.ofNat (tn (I 89 9)) := (p_tnb r2.1).symm
    obtain ⟨R, hR⟩ : ∃ R, R = tn (I 89 9) := ⟨_, rfl⟩
    rw [← hR] at hrn tr
    have hR8 : R < 8 := by omega
    have xR : ¬ (I 89 9 < 0 ∨ 8 ≤ R) := by rw [hR]; exact p_ix r2.1 (by show _ < (8 : Int); omega)
    obtain ⟨I1, J1, ρ1, f1, f2, f3, f4, f5, f6, f7, f8, f9, f10, f11⟩ := rule_of (J := J) (I := I) (w := w) (so := so) (n := tn (I 89 0)) (s := tn s) N sh (kcl_six hk) (fun z => by
      obtain ⟨c1, c2, c3, c4⟩ := hc z
      have ts := p_tnc s c1.1
      have := (hs (tn s) (by omega)).2.1
      exact ⟨hso z, by omega, by rw [this, c3]; exact hn, by omega⟩)
    rw [← ea] at f1 f4 f5 f6 f7 f8 f10 f11
    have q323 : I1 32 3 = I 89 9 := by rw [f6 32 3 (by omega)]; exact r1
    have e1 : (I 89 9 + 1).toInt = (I 89 9).toInt + 1 := p_add (b := 1) (by show _ ≤ _ + (1 : Int); omega) (by show _ + (1 : Int) < _; omega)
    have A0 : ∀ b j, b < a → ¬ (b = 32 ∧ j = 3) → (u2 I1 32 3 (I 89 9 + 1)) b j = I b j := fun b j z1 z2 => (u2_fr (by omega)).trans (f6 b j z1)
    have hc' : k = 4 → rchk (u2 I1 32 3 (I 89 9 + 1)) s (tn (I 89 0)) := by
      intro z
      obtain ⟨c1, c2, c3, c4⟩ := hc z
      refine ⟨c1, ?_, ?_, fun m hm => ?_⟩
      · rw [A0 107 _ (by omega) (by omega)]; exact c2
      · rw [A0 108 _ (by omega) (by omega), A0 89 0 (by omega) (by omega)]; exact c3
      · rw [A0 109 _ (by omega) (by omega)]; exact c4 m hm
    have c0 := A0 89 0 (by omega) (by omega)
    have c9 := A0 89 9 (by omega) (by omega)
    obtain ⟨K, g1, g2, g3⟩ := m_nums (N := N) (ρ := (u2 ρ1.1 33 R (some a), ρ1.2)) (J := J1) (k := k) (s := s) (n := tn (I 89 0)) (r := R) (by omega) hR8 (fun z => (hc z).1) 8 0 N (u2 (u2 (u2 I1 32 3 (I 89 9 + 1)) 94 R k) 95 R w) (by omega) (by omega) (by rw [u2_fr (by omega), u2_fr (by omega), c0]; exact hn) (by rw [u2_fr (by omega), u2_fr (by omega), c9]; exact hrn)
    have K9 : K 89 9 = I 89 9 := by rw [g2 89 9 (by omega), u2_fr (by omega), u2_fr (by omega), c9]
    have isRa : isR (ρ1.2.1 a) := by
      rw [f5]
      refine ⟨rfl, ?_⟩
      show kcl _ = 6 ∨ _
      unfold kcl
      repeat' (first | omega | split)
    refine ⟨u2 I1 32 3 (I 89 9 + 1), J1, (u2 ρ1.1 33 R (some a), ρ1.2), I 89 9 + 1 - 1, u2 K 89 9 (K 89 9 + 1), ?_, ?_, ?_⟩
    · rw [if_pos (by rw [fa_lt]; show _ < (8 : Int); omega), f1]
      simp only [Option.bind_some]
      rw [← hR, if_pos xR, if_pos isRa, q323]
    · rw [m_pre hN hk hw9 (by rw [c0]; exact hn) (by omega) hc', c9, ← hR, if_neg (fun z => h8 (by rw [z]; rfl)), if_pos xR, if_pos xR]
      rw [show Int32.ofNat 0 = (0 : Int32) from rfl] at g1
      rw [g1]
      simp only [Option.bind_some]
      rw [K9]
    · have A : ∀ b j, b < a → ¬ (b = 32 ∧ j = 3) → ¬ (b = 89 ∧ j = 9) → ¬ (b = 94 ∧ j = R) → ¬ (b = 95 ∧ j = R) → ¬ (b = 96 ∧ 8 * R ≤ j ∧ j < 8 * R + 8) → (u2 K 89 9 (K 89 9 + 1)) b j = I b j := by
        intro b j z1 z2 z3 z4 z5 z6
        rw [u2_fr (by omega), g2 b j (by omega), u2_fr (by omega), u2_fr (by omega)]
        exact A0 b j z1 z2
      have AB : ∀ b j, a ≤ b → (u2 K 89 9 (K 89 9 + 1)) b j = I1 b j := by
        intro b j z1
        rw [u2_fr (by omega), g2 b j (by omega), u2_fr (by omega), u2_fr (by omega), u2_fr (by omega)]
      have shf : Sh (u2 ρ1.1 33 R (some a), ρ1.2) := Sh.put f2 33 R (some a) (fun q hq z => absurd z.1 ((by decide : ∀ q ∈ shR, ¬ q.1 = 33) q hq)) (by decide)
      have G : Grw ρ (u2 ρ1.1 33 R (some a), ρ1.2) := f3
      have RR : ∀ b j, b < a → ¬ (b = 33 ∧ j = R) → (u2 ρ1.1 33 R (some a)) b j = ρ.1 b j := fun b j z1 z2 => (u2_fr (by omega)).trans (f4 b j z1)
      have i9 : (u2 K 89 9 (K 89 9 + 1)) 89 9 = I 89 9 + 1 := by rw [u2_at, K9]
      have i323 : (u2 K 89 9 (K 89 9 + 1)) 32 3 = I 89 9 + 1 := by
        rw [u2_fr (by omega), g2 32 3 (by omega), u2_fr (by omega), u2_fr (by omega), u2_at]
      refine ⟨shf, fr_vMen (fun b j hh => A b j (by omega) (by omega) (by omega) (by omega) (by omega) (by omega)) hm, fr_vTold (fun b j hh => A b j (by omega) (by omega) (by omega) (by omega) (by omega) (by omega)) ht, fr_vDays (fun b j hh => A b j (by omega) (by omega) (by omega) (by omega) (by omega) (by omega)) hd, fr_vTape (fun b j hh => A b j (by omega) (by omega) (by omega) (by omega) (by omega) (by omega)) hp, fr_vSheet (fun b j hh => A b j (by omega) (by omega) (by omega) (by omega) (by omega) (by omega)) hs, ?_, ?_, ?_, ?_, fun q hq => ?_⟩
      · refine ⟨i323.trans i9.symm, ?_, fun r hr8 => ⟨fun hlt => ?_, fun hge => ?_⟩⟩
        · rw [i9]; unfold bw; omega
        · rw [i9, e1] at hlt
          by_cases hrr : r = R
          · subst hrr
            refine ⟨a, by show (u2 ρ1.1 33 r (some a)) 33 r = some a; exact u2_at, ?_⟩
            have v94 : (u2 K 89 9 (K 89 9 + 1)) 94 r = k := by rw [u2_fr (by omega), g2 94 _ (by omega), u2_fr (by omega), u2_at]
            have v95 : (u2 K 89 9 (K 89 9 + 1)) 95 r = w := by rw [u2_fr (by omega), g2 95 _ (by omega), u2_at]
            have v96 : ∀ m, m < 8 → (u2 K 89 9 (K 89 9 + 1)) 96 (8 * r + m) = if k = 4 ∧ m < tn (I 89 0) then I 109 (40 * tn s + m) else 0 := by
              intro m hm8
              rw [u2_fr (by omega), g3 m (by omega) hm8, u2_fr (by omega), u2_fr (by omega), A0 109 _ (by omega) (by omega)]
            unfold vRule1
            rw [v94, v95, AB a 0 (by omega), AB a 1 (by omega), f7, f8]
            refine ⟨by omega, by show a + 1 < 33 + ρ1.2.2; omega, f5, rfl, rfl, hk, hw9, fun m hm8 => ?_, fun z => ?_, fun z m hm8 => ?_⟩
            · rw [v96 m hm8]
              by_cases hq : k = 4 ∧ m < tn (I 89 0)
              · rw [if_pos hq]; exact (hc hq.1).2.2.2 m hq.2
              · rw [if_neg hq]; exact ⟨by decide, by decide⟩
            · obtain ⟨y1, y2, y3, y4⟩ := f11 z
              obtain ⟨c1, c2, c3, c4⟩ := hc z
              have ts := p_tnc s c1.1
              refine ⟨(u2_fr (by omega)).trans y1, by show a + 1 < 32 + ρ1.2.2; omega, y3, fun m hm8 => ?_⟩
              rw [AB (a + 1) m (by omega), y4 m hm8, v96 m hm8]
              by_cases hq : m < tn (I 89 0)
              · rw [if_pos hq, if_pos ⟨z, hq⟩]; exact (hs (tn s) (by omega)).2.2.2.2.2 m (by omega)
              · rw [if_neg hq, if_neg (fun q => hq q.2)]
            · rw [v96 m hm8, if_neg (fun q => z q.1)]
          · obtain ⟨b, h1, h2⟩ := (r3 r hr8).1 (by omega)
            refine ⟨b, (RR 33 r (by omega) (by omega)).trans h1, ?_⟩
            refine gr_vRule1 G (fun z1 z2 => RR b 2 (by omega) (by omega)) ?_
            obtain ⟨a1, a2, a3, a4, a5, a6, a7, a8, a9, a10⟩ := h2
            have v0 : (u2 K 89 9 (K 89 9 + 1)) 94 r = I 94 r := A 94 r (by omega) (by omega) (by omega) (by omega) (by omega) (by omega)
            have v1 : (u2 K 89 9 (K 89 9 + 1)) 95 r = I 95 r := A 95 r (by omega) (by omega) (by omega) (by omega) (by omega) (by omega)
            have v2 : ∀ m, m < 8 → (u2 K 89 9 (K 89 9 + 1)) 96 (8 * r + m) = I 96 (8 * r + m) := fun m hm8 => A 96 _ (by omega) (by omega) (by omega) (by omega) (by omega) (by omega)
            have v3 : ∀ j, (u2 K 89 9 (K 89 9 + 1)) b j = I b j := fun j => A b j (by omega) (by omega) (by omega) (by omega) (by omega) (by omega)
            unfold vRule1
            rw [v0, v1, v3, v3]
            refine ⟨a1, a2, a3, a4, a5, a6, a7, fun m hm8 => by rw [v2 m hm8]; exact a8 m hm8, fun z => ?_, fun z m hm8 => by rw [v2 m hm8]; exact a10 z m hm8⟩
            obtain ⟨z1, z2, z3, z4⟩ := a9 z
            exact ⟨z1, z2, z3, fun m hm8 => by rw [v2 m hm8, A (b + 1) m (by omega) (by omega) (by omega) (by omega) (by omega) (by omega)]; exact z4 m hm8⟩
        · rw [i9, e1] at hge
          exact (RR 33 r (by omega) (by omega)).trans ((r3 r hr8).2 (by omega))
      · refine gr_vLaws G (fun b j hh => RR b j (by omega) (by omega)) ?_
        refine ⟨?_, ?_, fun t ht6 => ⟨fun hlt => ?_, fun hge => ?_⟩⟩
        · rw [A 32 5 (by omega) (by omega) (by omega) (by omega) (by omega) (by omega), A 89 17 (by omega) (by omega) (by omega) (by omega) (by omega) (by omega)]; exact hl.1
        · rw [A 89 17 (by omega) (by omega) (by omega) (by omega) (by omega) (by omega)]; exact hl.2.1
        · rw [A 89 17 (by omega) (by omega) (by omega) (by omega) (by omega) (by omega)] at hlt
          obtain ⟨b, h1, h2⟩ := (hl.2.2 t ht6).1 hlt
          refine ⟨b, h1, fr_vLaw1 (fun q j hq => ?_) h2⟩
          obtain ⟨b', hh, n, w1, w2, w3, w4, w5, w6, w7, w8, w9, w10, w11, w12, w13, w14⟩ := h2
          exact A q j (by omega) (by omega) (by omega) (by omega) (by omega) (by omega)
        · rw [A 89 17 (by omega) (by omega) (by omega) (by omega) (by omega) (by omega)] at hge
          exact (hl.2.2 t ht6).2 hge
      · exact gr_vForce (fun b j hh => RR b j (by omega) (by omega)) (fr_vForce (fun b j hh => A b j (by omega) (by omega) (by omega) (by omega) (by omega) (by omega)) hf)
      · refine gr_vImg G (fun b j hh => RR b j (by omega) (by omega)) ?_
        have y24 := A 89 24 (by omega) (by omega) (by omega) (by omega) (by omega) (by omega)
        rcases hi with ⟨z1, z2⟩ | ⟨z1, c, z2, z3⟩
        · exact Or.inl ⟨z1, y24.trans z2⟩
        · refine Or.inr ⟨y24.trans z1, c, z2, fr_vImg1 (fun b j hh => ?_) z3⟩
          have u1 := z3.1
          have u2' := z3.2.1
          exact A b j (by omega) (by omega) (by omega) (by omega) (by omega) (by omega)
      · rw [f10 110 q (by omega)]; exact hw q hq
theorem op_rule {ρ : Rh} {I : Nat → Nat → Int32} {J : Nat → Nat → Int64} (N : Nat) (h : Inv ρ I J) (hN : 200 ≤ N) (k w s : Int32) : ∃ I1 J1 ρ1 r I2, f_X11_rule N ρ I J k w s = some (I1, J1, ρ1, r) ∧ f_X12_rule N ρ1 I1 J1 k w s = some (I2, r) ∧ Inv ρ1 I2 J1 := by
  obtain ⟨sh, hm, ht, hd, hp, hs, hr, hl, hf, hi, hw⟩ := id h
  obtain ⟨m1, m2, m3, m4, m5⟩ := id hm
  unfold bw at m2
  have hn : I 89 0 = Int32.ofNat (tn (I 89 0)) := (p_tnb m2.1).symm
  have tn0 := p_tnc (I 89 0) m2.1
  by_cases hk : 0 ≤ k.toInt ∧ k.toInt ≤ 5
  · by_cases hw9 : 0 ≤ w.toInt ∧ w.toInt ≤ 99
    · have cpre : ∀ T : Option ((Nat → Nat → Int32) × (Nat → Nat → Int64) × Rh × Int32), (if k < 0 then some (I, J, ρ, (-2 : Int32)) else (if 5 < k then some (I, J, ρ, -2) else (if w < 0 then some (I, J, ρ, -2) else (if w ≤ 99 then T else some (I, J, ρ, -2))))) = T := by
        intro T
        rw [if_neg (by rw [fa_lt]; show ¬ _ < (0 : Int); omega), if_neg (by rw [fa_lt]; show ¬ (5 : Int) < _; omega), if_neg (by rw [fa_lt]; show ¬ _ < (0 : Int); omega), if_pos (by rw [fa_le]; show _ ≤ (99 : Int); omega)]
      by_cases h4 : k = 4
      · by_cases hs4 : 0 ≤ s.toInt ∧ s.toInt < 4
        · have g := sheet_in (ρ := ρ) (I := I) (J := J) N hs4.1 hs4.2
          have ts := p_tnc s hs4.1
          have h4' : tn s < 4 := by omega
          obtain ⟨k1, k2, k3⟩ := sheet_k sh h4'
          have x := p_ix (a := s) (n := 4) hs4.1 (by show _ < (4 : Int); omega)
          have ms := c_miss sh (J := J) N hs h4'
          obtain ⟨q1, q2, q3, q4, q5, q6⟩ := hs (tn s) h4'
          unfold bw at q4
          have b3' : ¬ ¬ ((0 : Int32).toInt ≤ s.toInt ∧ s.toInt ≤ (3 : Int32).toInt) := by show ¬ ¬ ((0 : Int) ≤ s.toInt ∧ s.toInt ≤ 3); omega
          have mpre : ¬ ¬ ((0 : Int32).toInt ≤ k.toInt ∧ k.toInt ≤ (5 : Int32).toInt) ∧ ¬ ¬ ((0 : Int32).toInt ≤ w.toInt ∧ w.toInt ≤ (99 : Int32).toInt) := by
            show ¬ ¬ ((0 : Int) ≤ k.toInt ∧ k.toInt ≤ 5) ∧ ¬ ¬ ((0 : Int) ≤ w.toInt ∧ w.toInt ≤ 99)
            omega
          by_cases hmi : (I 107 (tn s)).toInt = -1
          · refine ⟨I, J, ρ, -11, I, ?_, ?_, h⟩
            · unfold f_X11_rule
              rw [cpre, if_pos h4, g]
              simp only [Option.bind_some, ocase_so]
              rw [if_pos k1, ms]
              simp only [Option.bind_some, p_b01]
              rw [if_neg (by omega)]
              rfl
            · unfold f_X12_rule
              simp only [m_in, Option.bind_some, p_b01]
              rw [if_neg mpre.1, if_neg mpre.2]
              simp only [if_pos h4, if_neg b3', Option.bind_some, scase_r, scase_l, if_pos x, if_pos (show I 107 (tn s) = -1 from p_eq hmi)]
          · have n1 : ¬ I 107 (tn s) = -1 := fun z => hmi (by rw [z]; rfl)
            by_cases hsz : I 108 (tn s) = I 89 0
            · by_cases hall : ∀ m, m < tn (I 89 0) → bw (I 109 (40 * tn s + m)) 0 50
              · obtain ⟨I1, J1, ρ1, r, I2, e1, e2, e3⟩ := rule_full N hN h (so := some (81 + 2 * tn s)) hk hw9 (fun _ => ⟨hs4, hmi, hsz, hall⟩) (fun _ => rfl)
                refine ⟨I1, J1, ρ1, r, I2, ?_, e2, e3⟩
                unfold f_X11_rule
                rw [cpre, if_pos h4, g]
                simp only [Option.bind_some, ocase_so]
                rw [if_pos k1, ms]
                simp only [Option.bind_some, p_b01]
                rw [if_pos hmi, if_pos (q2.trans (hsz.trans m1.symm))]
                unfold f_X7_holdsOnly
                obtain ⟨rr, y1, y2⟩ := c_holds (N := N) (J := J) sh h4' (q2.trans (hsz.trans hn)) (by omega) (tn (I 89 0)) 0 N (by omega) (by omega)
                rcases y2 with ⟨y2, y3⟩ | ⟨y2, y3⟩
                · subst y2
                  rw [show Int32.ofNat 0 = (0 : Int32) from rfl] at y1
                  rw [y1]
                  simp only [Option.bind_some, scase_r]
                  rw [if_neg (by decide)]
                  exact e1
                · exact absurd (fun m _ h2 => by rw [q6 m (by omega)]; exact hall m h2) y3
              · refine ⟨I, J, ρ, -2, I, ?_, ?_, h⟩
                · unfold f_X11_rule
                  rw [cpre, if_pos h4, g]
                  simp only [Option.bind_some, ocase_so]
                  rw [if_pos k1, ms]
                  simp only [Option.bind_some, p_b01]
                  rw [if_pos hmi, if_pos (q2.trans (hsz.trans m1.symm))]
                  unfold f_X7_holdsOnly
                  obtain ⟨rr, y1, y2⟩ := c_holds (N := N) (J := J) sh h4' (q2.trans (hsz.trans hn)) (by omega) (tn (I 89 0)) 0 N (by omega) (by omega)
                  rcases y2 with ⟨y2, y3⟩ | ⟨y2, y3⟩
                  · exact absurd (fun m h2 => by rw [← q6 m (by omega)]; exact y3 m (Nat.zero_le _) h2) hall
                  · subst y2
                    rw [show Int32.ofNat 0 = (0 : Int32) from rfl] at y1
                    rw [y1]
                    rfl
                · unfold f_X12_rule
                  simp only [m_in, Option.bind_some, p_b01]
                  rw [if_neg mpre.1, if_neg mpre.2]
                  obtain ⟨rr, y1, y2⟩ := m_holds (N := N) (ρ := ρ) (J := J) (p2 := w) hs4.1 hs4.2 hn (by omega) (tn (I 89 0)) 0 N (by omega) (by omega)
                  rcases y2 with ⟨y2, y3⟩ | ⟨y2, y3⟩
                  · exact absurd (fun m h2 => y3 m (Nat.zero_le _) h2) hall
                  · subst y2
                    subst h4
                    rw [show Int32.ofNat 0 = (0 : Int32) from rfl] at y1
                    simp only [if_true, if_neg b3', Option.bind_some, scase_r, if_pos x, if_neg n1, hsz, y1]
            · refine ⟨I, J, ρ, -2, I, ?_, ?_, h⟩
              · unfold f_X11_rule
                rw [cpre, if_pos h4, g]
                simp only [Option.bind_some, ocase_so]
                rw [if_pos k1, ms]
                simp only [Option.bind_some, p_b01]
                rw [if_pos hmi, if_neg (fun z => hsz (q2.symm.trans (z.trans m1)))]
                rfl
              · unfold f_X12_rule
                simp only [m_in, Option.bind_some, p_b01]
                rw [if_neg mpre.1, if_neg mpre.2]
                simp only [if_pos h4, if_neg b3', Option.bind_some, scase_r, if_pos x, if_neg n1, if_neg hsz, m_holds0 (show 0 < N by omega), if_true]
        · refine ⟨I, J, ρ, -2, I, ?_, ?_, h⟩
          · unfold f_X11_rule
            rw [cpre, if_pos h4, sheet_out N hs4]
            rfl
          · unfold f_X12_rule
            simp only [m_in, Option.bind_some, p_b01]
            rw [if_neg (by show ¬ ¬ ((0 : Int) ≤ k.toInt ∧ k.toInt ≤ 5); omega), if_neg (by show ¬ ¬ ((0 : Int) ≤ w.toInt ∧ w.toInt ≤ 99); omega)]
            simp only [if_pos h4, if_pos (show ¬ ((0 : Int32).toInt ≤ s.toInt ∧ s.toInt ≤ (3 : Int32).toInt) from by show ¬ ((0 : Int) ≤ s.toInt ∧ s.toInt ≤ 3); omega), Option.bind_some, scase_l]
      · obtain ⟨I1, J1, ρ1, r, I2, e1, e2, e3⟩ := rule_full N hN h (so := none) (s := s) hk hw9 (fun z => absurd z h4) (fun z => absurd z h4)
        refine ⟨I1, J1, ρ1, r, I2, ?_, e2, e3⟩
        unfold f_X11_rule
        rw [cpre, if_neg h4]
        exact e1
    · refine ⟨I, J, ρ, -2, I, ?_, ?_, h⟩
      · unfold f_X11_rule
        rw [if_neg (by rw [fa_lt]; show ¬ _ < (0 : Int); omega), if_neg (by rw [fa_lt]; show ¬ (5 : Int) < _; omega)]
        by_cases c1 : w.toInt < 0
        · rw [if_pos (by rw [fa_lt]; exact c1)]
        · rw [if_neg (by rw [fa_lt]; exact c1), if_neg (by rw [fa_le]; show ¬ _ ≤ (99 : Int); omega)]
      · unfold f_X12_rule
        simp only [m_in, Option.bind_some, p_b01]
        rw [if_neg (by show ¬ ¬ ((0 : Int) ≤ k.toInt ∧ k.toInt ≤ 5); omega), if_pos (by show ¬ ((0 : Int) ≤ w.toInt ∧ w.toInt ≤ 99); omega)]
  · refine ⟨I, J, ρ, -2, I, ?_, ?_, h⟩
    · unfold f_X11_rule
      by_cases c1 : k.toInt < 0
      · rw [if_pos (by rw [fa_lt]; exact c1)]
      · rw [if_neg (by rw [fa_lt]; exact c1), if_pos (by rw [fa_lt]; show (5 : Int) < _; omega)]
    · unfold f_X12_rule
      simp only [m_in, Option.bind_some, p_b01]
      rw [if_pos (by show ¬ ((0 : Int) ≤ k.toInt ∧ k.toInt ≤ 5); omega)]
