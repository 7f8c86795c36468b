/-! ===== the pure layer: the class's voyage in one; what scratch leaves ===== -/
def SC (b j : Nat) : Prop := (b = 48 ∧ 9 ≤ j) ∨ (50 ≤ b ∧ b ≤ 62) ∨ (64 ≤ b ∧ b ≤ 77) ∨ b = 79 ∨ b = 80 ∨ (b = 89 ∧ j = 23) ∨ (100 ≤ b ∧ b ≤ 103) ∨ b = 112 ∨ b = 113
theorem inv_scratch {ρ : Rh} {I I' : Nat → Nat → Int32} {J J' : Nat → Nat → Int64} (h : Inv ρ I J) (x : Option Nat) (hI : ∀ b j, ¬ SC b j → I' b j = I b j) (hJ : ∀ j, J' 110 j = J 110 j) : Inv (u2 ρ.1 48 8 x, ρ.2) I' J' := by
  obtain ⟨sh, hm, ht, hd, hp, hs, hr, hl, hf, hi, hw⟩ := id h
  have F : ∀ b j, ¬ SC b j → I' b j = I b j := hI
  have sh' : Sh (u2 ρ.1 48 8 x, ρ.2) := Sh.put sh 48 8 x (by decide) (by decide)
  refine ⟨sh', fr_vMen (fun a k hh => F a k (by unfold SC; omega)) hm, fr_vTold (fun a k hh => F a k (by unfold SC; omega)) ht, fr_vDays (fun a k hh => F a k (by unfold SC; omega)) hd, fr_vTape (fun a k hh => F a k (by unfold SC; omega)) hp, fr_vSheet (fun a k hh => F a k (by unfold SC; omega)) hs, gr_vRules (Grw.same sh _) (fun a k hh => u2_fr (by omega)) (fr_vRules (fun a k hh => F a k (by unfold SC; omega)) hr), gr_vLaws (Grw.same sh _) (fun a k hh => u2_fr (by omega)) (fr_vLaws (fun a k hh => F a k (by unfold SC; omega)) hl), gr_vForce (fun a k hh => u2_fr (by omega)) (fr_vForce (fun a k hh => F a k (by unfold SC; omega)) hf), gr_vImg (Grw.same sh _) (fun a k hh => u2_fr (by omega)) (fr_vImg (fun a k hh => F a k (by unfold SC; omega)) hi), fun k hk => (hJ k).trans (hw k hk)⟩
theorem inv_scratch0 {ρ : Rh} {I I' : Nat → Nat → Int32} {J J' : Nat → Nat → Int64} (h : Inv ρ I J) (hI : ∀ b j, ¬ SC b j → I' b j = I b j) (hJ : ∀ j, J' 110 j = J 110 j) : Inv ρ I' J' := by
  obtain ⟨sh, hm, ht, hd, hp, hs, hr, hl, hf, hi, hw⟩ := id h
  have F : ∀ b j, ¬ SC b j → I' b j = I b j := hI
  refine ⟨sh, fr_vMen (fun a k hh => F a k (by unfold SC; omega)) hm, fr_vTold (fun a k hh => F a k (by unfold SC; omega)) ht, fr_vDays (fun a k hh => F a k (by unfold SC; omega)) hd, fr_vTape (fun a k hh => F a k (by unfold SC; omega)) hp, fr_vSheet (fun a k hh => F a k (by unfold SC; omega)) hs, fr_vRules (fun a k hh => F a k (by unfold SC; omega)) hr, fr_vLaws (fun a k hh => F a k (by unfold SC; omega)) hl, fr_vForce (fun a k hh => F a k (by unfold SC; omega)) hf, fr_vImg (fun a k hh => F a k (by unfold SC; omega)) hi, fun k hk => (hJ k).trans (hw k hk)⟩
def chn (I : Nat → Nat → Int32) (d : Nat) : Nat := if d < 12 then tn (I 92 d) else 0
def vLd (P : VP) (V : VS) (D : Nat) : Int32 := (trj P D 0 V).2.2.2.1
def vS (P : VP) (V : VS) (D : Nat) : Nat := if vLd P V D = -1 then D else tn (vLd P V D) + 1
def vfl (P : VP) (V : VS) (D : Nat) : Bool := if vLd P V D = -1 then false else true
def val (P : VP) (V : VS) (m d : Nat) : Bool := if (trj P d 0 V).1 m ≤ 0 then false else true
/-- a man's HOME, of ten to the n parts -/
def HM (n : Nat) (ch : Nat → Nat) (P : VP) (V : VS) (D m : Nat) : Nat := homeN n ch (val P V m) (vS P V D) (vfl P V D)
theorem hom_cong {n : Nat} {ch : Nat → Nat} {al al' : Nat → Bool} : ∀ {S : Nat}, (∀ d, d < S → al d = al' d) → hom n ch al S = hom n ch al' S
  | 0, _ => rfl
  | S + 1, h => by
    unfold hom
    rw [h S (by omega), hom_cong (S := S) (fun d hd => h d (by omega))]
theorem homeN_cong {n : Nat} {ch : Nat → Nat} {al al' : Nat → Bool} {S : Nat} {fl : Bool} (h : ∀ d, d < S → al d = al' d) (h2 : fl = true → al S = al' S) : homeN n ch al S fl = homeN n ch al' S fl := by
  unfold homeN
  rw [hom_cong h]
  by_cases hf : fl = true
  · rw [if_pos hf, if_pos hf, h2 hf]
  · rw [if_neg hf, if_neg hf]
theorem vLd_two {P : VP} {V : VS} {D : Nat} (hD : D ≤ 12) (hV : V.2.2.2.1 = -1) : (vLd P V D = -1 ∧ vS P V D = D ∧ vfl P V D = false) ∨ ∃ L, L < D ∧ vLd P V D = Int32.ofNat L ∧ vS P V D = L + 1 ∧ vfl P V D = true := by
  rcases trj_land (P := P) (e := D) (d := 0) (V := V) (by omega) hV with h | ⟨L, h1, h2, h3⟩
  · left
    have h' : vLd P V D = -1 := h
    unfold vS vfl
    rw [if_pos h', if_pos h']
    exact ⟨h', rfl, rfl⟩
  · right
    have h' : vLd P V D = Int32.ofNat L := h3
    have hne : ¬ vLd P V D = -1 := by
      rw [h']; intro z; have := congrArg Int32.toInt z; rw [p_nI (by omega)] at this; have e : (-1 : Int32).toInt = -1 := rfl; omega
    refine ⟨L, by omega, h', ?_, ?_⟩
    · unfold vS; rw [if_neg hne, h', p_tnI (by omega)]
    · unfold vfl; rw [if_neg hne]
theorem vS_le {P : VP} {V : VS} {D : Nat} (hD : D ≤ 12) (hV : V.2.2.2.1 = -1) : vS P V D ≤ D := by
  rcases vLd_two (P := P) hD hV with h | ⟨L, h⟩ <;> omega
def lawOk (ρ : Rh) (I : Nat → Nat → Int32) (l b h L : Nat) : Prop := ρ.2.1 l = (0, 2) ∧ ρ.1 l 1 = some b ∧ I l 2 = Int32.ofNat h ∧ ρ.2.1 b = (1, L) ∧ h ≤ L ∧ L < 160 ∧ seg (I b) 0 h ∧ seg (I b) h L ∧ ((l = 41 ∧ b = 40) ∨ (115 ≤ l ∧ b = l + 1))
theorem c_sail {N : Nat} (hN : 200 ≤ N) {ρ : Rh} {I : Nat → Nat → Int32} {J : Nat → Nat → Int64} (hI : Inv ρ I J) {r a : Nat} (hr8 : r < 8) (hra : vRule1 ρ I r a) {l b h L : Nat} (h42 : ρ.1 42 6 = some l) (hl : lawOk ρ I l b h L) {ra set hid hides : Int32} {kb : Nat → Bool} (hkb : ∀ m, m < tn (I 89 0) → ((((set) >>> (Int32.ofNat m &&& 31)) &&& 1) = 1 ↔ kb m = true)) : ∃ I1 J1, f_X10_sailAs N ρ I J a ra set hid hides = some (I1, J1, (u2 ρ.1 48 8 (some a), ρ.2)) ∧ (∀ q j, ¬ ((q = 48 ∧ 9 ≤ j) ∨ (50 ≤ q ∧ q ≤ 62) ∨ (64 ≤ q ∧ q ≤ 77) ∨ q = 79 ∨ q = 80) → I1 q j = I q j) ∧ (∀ q j, ¬ q = 78 → J1 q j = J q j) ∧ cAll (PV I r b h L ra kb hid) 0 (tn (I 89 3)) (V0 I hides) I1 ∧ ∀ m, m < tn (I 89 0) → J1 78 m = Int64.ofNat (HM 12 (chn I) (PV I r b h L ra kb hid) (V0 I hides) (tn (I 89 3)) m) := by
  have hB := cB_of hN hI (J' := J) hr8 hra (t := 0) (h := h) (L := L) h42 hl (ra := ra) (set := set) (hid := hid) (hides := hides) hkb
  obtain ⟨sh, hm, ht, hd, hp, hs, hr, hl', hf, hi, hw⟩ := id hI
  obtain ⟨m1, m2, m3, m4, m5⟩ := id hm
  obtain ⟨t1, t2, t3, t4, t5, t6, t7, t8⟩ := id ht
  unfold bw at m2 t5
  have tt := p_tnc (I 89 0) m2.1
  have td := p_tnc (I 89 3) (by omega)
  obtain ⟨s1, s2, s3, s4, s5, s6, s7, s8⟩ := @sIn_at I ra set hid hides
  have sh' : Sh (u2 ρ.1 48 8 (some a), ρ.2) := Sh.put sh 48 8 (some a) (by decide) (by decide)
  have h45 : sIn I ra set hid hides 45 0 = Int32.ofNat (tn (I 89 3)) := by rw [sIn_fr (by omega) (by omega) (by omega) (by omega), t1]; exact (p_tnb (by omega)).symm
  have hR : cR (PV I r b h L ra kb hid) 0 (V0 I hides) (sIn I ra set hid hides) := by
    refine ⟨fun m hm8 => ?_, ?_, s7, s5, s4⟩
    · have hm8' : m < tn (I 89 0) := hm8
      rw [show 50 + 0 = 50 from rfl, s8 m (by omega)]; exact (m3 m (by omega)).1
    · rw [s6]; exact t2
  obtain ⟨I1, g1, g2, g3, g4⟩ := c_days hN sh' hB (D := tn (I 89 3)) (by omega) h45 (tn (I 89 3)) 0 N (V0 I hides) (sIn I ra set hid hides) (by omega) (by omega) (fun _ _ _ => rfl) hR
  have F : ∀ q j, ¬ ((q = 48 ∧ 9 ≤ j) ∨ (50 ≤ q ∧ q ≤ 62) ∨ (64 ≤ q ∧ q ≤ 77) ∨ q = 79 ∨ q = 80) → I1 q j = I q j := fun q j z => (g2 q j (by unfold VT; omega)).trans (sIn_fr (by omega) (by omega) (by omega) (by omega))
  have ch9 : ∀ d, chn I d ≤ 9 := by
    intro d
    unfold chn
    split
    · rename_i h12
      have := (hd d h12).2.2.1
      unfold bw at this
      have := p_tnc (I 92 d) this.1
      omega
    · omega
  have g4' := g4
  obtain ⟨x1, x2, x3⟩ := g4'
  have hL2 := vLd_two (P := PV I r b h L ra kb hid) (V := V0 I hides) (D := tn (I 89 3)) (by omega) rfl
  have hSD := vS_le (P := PV I r b h L ra kb hid) (V := V0 I hides) (D := tn (I 89 3)) (by omega) rfl
  obtain ⟨J1, j1, j2, j3⟩ := c_homes hN sh' (J := J) (I := I1) (n := tn (I 89 0)) (D := tn (I 89 3)) (S := vS (PV I r b h L ra kb hid) (V0 I hides) (tn (I 89 3))) (ch := chn I) (fl := vfl (PV I r b h L ra kb hid) (V0 I hides) (tn (I 89 3))) (by rw [F 42 0 (by omega), m1]; exact (p_tnb m2.1).symm) (by omega) (by omega) ch9 (fun q hq => by
      rw [F 46 q (by omega), (hd q hq).1]
      unfold chn
      rw [if_pos hq]
      exact (p_tnb (hd q hq).2.2.1.1).symm) (by rw [F 45 0 (by omega), t1]; exact (p_tnb (by omega)).symm) (by
      rw [x3]
      rcases hL2 with ⟨y1, y2, y3⟩ | ⟨K, y1, y2, y3, y4⟩
      · exact Or.inl ⟨y1, y2, y3⟩
      · exact Or.inr ⟨K, y1, y2, y3, y4⟩)
  refine ⟨I1, J1, ?_, F, j2, g4, fun m hm8 => ?_⟩
  · unfold f_X10_sailAs
    rw [show Int32.ofNat 0 = (0 : Int32) from rfl] at g1
    have e : (sIn I ra set hid hides) = u2 (u2 (up (u2 (u2 (u2 (u2 (u2 I 48 9 ra) 48 10 set) 48 11 hid) 48 12 hides) 48 16 (-1)) 50 (cpy ((u2 (u2 (u2 (u2 (u2 I 48 9 ra) 48 10 set) 48 11 hid) 48 12 hides) 48 16 (-1)) 43) ((u2 (u2 (u2 (u2 (u2 I 48 9 ra) 48 10 set) 48 11 hid) 48 12 hides) 48 16 (-1)) 50) (tn (0)) (tn (0)) (tn (8)))) 76 0 (I 45 1)) 77 0 (0) := rfl
    rw [← e, g1]
    simp only [Option.bind_some]
    rw [j1]
    rfl
  · rw [j3 m hm8]
    unfold HM
    congr 1
    refine homeN_cong (fun d hdS => ?_) (fun hfl => ?_)
    · have := (x1 d (by omega)).1 m hm8
      rw [Nat.zero_add] at this
      unfold val
      rw [this]
    · have := (x1 _ hSD).1 m hm8
      rw [Nat.zero_add] at this
      unfold val
      rw [this]
