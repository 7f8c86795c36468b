/-! ===== the pure layer: the class's voyage out of the invariant ===== -/
def homeN (n : Nat) (ch : Nat → Nat) (al : Nat → Bool) (S : Nat) (fl : Bool) : Nat := hom n ch al S + (if fl = true then (if al S = true then opn n ch S else 0) else 0)
theorem homeN_le {n : Nat} {ch : Nat → Nat} {al : Nat → Bool} {S : Nat} {fl : Bool} (hc : ∀ d, d < n → ch d ≤ 9) (h : S ≤ n) : homeN n ch al S fl ≤ 10 ^ n := by
  have := hom_le (al := al) hc h
  unfold homeN
  split
  · split <;> omega
  · omega
theorem homeN_up {n : Nat} {ch : Nat → Nat} {al : Nat → Bool} {S : Nat} {fl : Bool} (hn : n ≤ 12) (h : S ≤ n) : homeN 12 ch al S fl = 10 ^ (12 - n) * homeN n ch al S fl := by
  unfold homeN
  rw [hom_up hn h, Nat.mul_add]
  split
  · split
    · rw [opn_up hn h]
    · rw [Nat.mul_zero]
  · rw [Nat.mul_zero]
theorem c_homes {N : Nat} (hN : 200 ≤ N) {ρ : Rh} (sh : Sh ρ) {I : Nat → Nat → Int32} {J : Nat → Nat → Int64} {n D S : Nat} {ch : Nat → Nat} {fl : Bool} (hn : I 42 0 = Int32.ofNat n) (hn8 : n ≤ 8) (hD : D ≤ 12) (hc : ∀ d, ch d ≤ 9) (h46 : ∀ q, q < 12 → I 46 q = Int32.ofNat (ch q)) (h45 : I 45 0 = Int32.ofNat D) (hl : (I 48 16 = -1 ∧ S = D ∧ fl = false) ∨ (∃ L, L < D ∧ I 48 16 = Int32.ofNat L ∧ S = L + 1 ∧ fl = true)) : ∃ J', f_X10_sumHomes N ρ I J = some J' ∧ (∀ b j, ¬ b = 78 → J' b j = J b j) ∧ ∀ m, m < n → J' 78 m = Int64.ofNat (homeN 12 ch (fun d => if I (50 + d) m ≤ 0 then false else true) S fl) := by
  have hS : S ≤ 12 := by rcases hl with hl | ⟨L, hl⟩ <;> omega
  have hship : ∀ J, f_X10_shipDays N ρ I J = some (Int32.ofNat S) := by
    intro J
    unfold f_X10_shipDays
    rcases hl with ⟨h1, h2, h3⟩ | ⟨L, h1, h2, h3, h4⟩
    · rw [if_pos h1, h45, h2]
    · rw [if_neg (by rw [h2]; intro z; have := congrArg Int32.toInt z; rw [p_nI (by omega)] at this; have e : (-1 : Int32).toInt = -1 := rfl; omega), h2, p_succ (by omega), h3]
  have loop : ∀ (e d fuel : Nat) (J : Nat → Nat → Int64), d + e = S → e < fuel → (∀ m, m < n → J 78 m = Int64.ofNat (hom 12 ch (fun d => if I (50 + d) m ≤ 0 then false else true) d)) → ∃ J', f_X10_sumHomes_14 N I ρ fuel J (Int64.ofNat (opn 12 ch d)) (Int32.ofNat d) = some (J', Int64.ofNat (opn 12 ch S)) ∧ (∀ b j, ¬ b = 78 → J' b j = J b j) ∧ (∀ m, m < n → J' 78 m = Int64.ofNat (hom 12 ch (fun d => if I (50 + d) m ≤ 0 then false else true) S)) := by
    intro e
    induction e with
    | zero =>
      intro d fuel J z1 z2 hJ
      cases fuel with
      | zero => omega
      | succ fuel =>
        have e : d = S := by omega
        subst e
        refine ⟨J, ?_, fun _ _ _ => rfl, hJ⟩
        rw [f_X10_sumHomes_14.eq_2, hship]
        simp only [Option.bind_some]
        rw [if_pos ((p_ge (by omega) (by omega)).mpr (by omega))]
    | succ e ih =>
      intro d fuel J z1 z2 hJ
      cases fuel with
      | zero => omega
      | succ fuel =>
        obtain ⟨y1, y2⟩ := day_long (n := 12) (ch := ch) (d := d) (c := I 46 d) (by omega) (by omega) (fun d _ => hc d) (h46 d (by omega))
        obtain ⟨J1, a1, a2, a3⟩ := c_addL (N := N) (ρ := ρ) (d := d) (c := Int64.ofNat (cms 12 ch d)) hn hn8 (by omega) hN J
        have hJ1 : ∀ m, m < n → J1 78 m = Int64.ofNat (hom 12 ch (fun d => if I (50 + d) m ≤ 0 then false else true) (d + 1)) := by
          intro m hm
          rw [a3 m hm, hJ m hm]
          have b1 := hom_le (n := 12) (ch := ch) (al := fun d => if I (50 + d) m ≤ 0 then false else true) (fun d _ => hc d) (d := d) (by omega)
          have b2 := opn_s (n := 12) (ch := ch) (d := d) (by omega) (hc d)
          have e1 : hom 12 ch (fun d => if I (50 + d) m ≤ 0 then false else true) (d + 1) = hom 12 ch (fun d => if I (50 + d) m ≤ 0 then false else true) d + (if (if I (50 + d) m ≤ 0 then false else true) = true then cms 12 ch d else 0) := rfl
          by_cases h0 : I (50 + d) m ≤ 0
          · rw [if_pos h0, e1, if_pos h0, if_neg (by decide), Nat.add_zero]
          · rw [if_neg h0, e1, if_neg h0, if_pos rfl]
            have t1 : (Int64.ofNat (hom 12 ch (fun d => if I (50 + d) m ≤ 0 then false else true) d)).toInt = hom 12 ch (fun d => if I (50 + d) m ≤ 0 then false else true) d := q_nL (by omega)
            have t2 : (Int64.ofNat (cms 12 ch d)).toInt = cms 12 ch d := q_nL (by omega)
            refine q_of (by omega) ?_
            rw [q_add (by omega) (by omega), t1, t2]
            omega
        obtain ⟨J2, f1, f2, f3⟩ := ih (d + 1) fuel J1 (by omega) (by omega) hJ1
        refine ⟨J2, ?_, fun b j z => (f2 b j z).trans (a2 b j z), f3⟩
        rw [f_X10_sumHomes_14.eq_2, hship]
        simp only [Option.bind_some, bnd]
        rw [if_neg (fun z => absurd ((p_ge (by omega) (by omega)).mp z) (by omega)), if_pos (p_ixn (by omega) (by omega)), p_tnI (by omega), y1, a1]
        simp only [Option.bind_some]
        rw [y2, p_succ (by omega)]
        exact f1
  obtain ⟨J0, l1, l2, l3, l4⟩ := fillL_loop (N := N) (I := I) (a := 78) (v := (0 : Int64)) sh.k78 (by omega) 8 0 N J (by omega) (by omega)
  have h78 : ∀ m, m < n → J0 78 m = Int64.ofNat (hom 12 ch (fun d => if I (50 + d) m ≤ 0 then false else true) 0) := fun m hm => l3 m (Nat.zero_le _) (by omega)
  obtain ⟨J1, f1, f2, f3⟩ := loop S 0 N J0 (by omega) (by omega) h78
  have F : f_J7_fill_d0a16 N ρ I J 78 (0 : Int64) = some J0 := by
    unfold f_J7_fill_d0a16
    rw [sh.k78, if_pos rfl]
    rw [show Int32.ofNat 0 = (0 : Int32) from rfl] at l1
    rw [l1]
    rfl
  have o12 : Int64.ofNat (opn 12 ch 0) = (1000000000000 : Int64) := by rw [opn_0]; rfl
  rw [o12, show Int32.ofNat 0 = (0 : Int32) from rfl] at f1
  rcases hl with ⟨h1, h2, h3⟩ | ⟨L, h1, h2, h3, h4⟩
  · refine ⟨J1, ?_, fun b j z => (f2 b j z).trans (l2 b j z), fun m hm => ?_⟩
    · unfold f_X10_sumHomes
      rw [F]
      simp only [Option.bind_some]
      rw [f1]
      simp only [Option.bind_some]
      rw [if_pos h1]
    · rw [f3 m hm, h3]
      unfold homeN
      rw [if_neg (by decide), Nat.add_zero]
  · have hno : ¬ I 48 16 = -1 := by
      rw [h2]; intro z; have := congrArg Int32.toInt z; rw [p_nI (by omega)] at this; have e : (-1 : Int32).toInt = -1 := rfl; omega
    obtain ⟨J2, a1, a2, a3⟩ := c_addL (N := N) (ρ := ρ) (d := S) (c := Int64.ofNat (opn 12 ch S)) hn hn8 (by omega) hN J1
    refine ⟨J2, ?_, fun b j z => (a2 b j z).trans ((f2 b j z).trans (l2 b j z)), fun m hm => ?_⟩
    · unfold f_X10_sumHomes
      rw [F]
      simp only [Option.bind_some]
      rw [f1]
      simp only [Option.bind_some]
      rw [if_neg hno, h2, p_succ (by omega), ← h3, a1]
      rfl
    · rw [a3 m hm, f3 m hm, h4]
      unfold homeN
      rw [if_pos rfl]
      have b1 := hom_le (n := 12) (ch := ch) (al := fun d => if I (50 + d) m ≤ 0 then false else true) (fun d _ => hc d) (d := S) (by omega)
      by_cases h0 : I (50 + S) m ≤ 0
      · rw [if_pos h0, if_neg (show ¬ ((fun d => if I (50 + d) m ≤ 0 then false else true) S = true) from by simp [h0]), Nat.add_zero]
      · rw [if_neg h0, if_pos (show ((fun d => if I (50 + d) m ≤ 0 then false else true) S = true) from by simp [h0])]
        have t1 : (Int64.ofNat (hom 12 ch (fun d => if I (50 + d) m ≤ 0 then false else true) S)).toInt = hom 12 ch (fun d => if I (50 + d) m ≤ 0 then false else true) S := q_nL (by omega)
        have t2 : (Int64.ofNat (opn 12 ch S)).toInt = opn 12 ch S := q_nL (by omega)
        refine q_of (by omega) ?_
        rw [q_add (by omega) (by omega), t1, t2]
        omega
theorem trj_land {P : VP} : ∀ {e d : Nat} {V : VS}, d + e ≤ 12 → V.2.2.2.1 = -1 → (trj P e d V).2.2.2.1 = -1 ∨ ∃ L, d ≤ L ∧ L < d + e ∧ (trj P e d V).2.2.2.1 = Int32.ofNat L
  | 0, d, V, _, h => Or.inl h
  | e + 1, d, V, hde, h => by
    show (trj P e (d + 1) (vstep P d V)).2.2.2.1 = -1 ∨ ∃ L, d ≤ L ∧ L < d + (e + 1) ∧ (trj P e (d + 1) (vstep P d V)).2.2.2.1 = Int32.ofNat L
    have hs : (vstep P d V).2.2.2.1 = -1 ∨ (vstep P d V).2.2.2.1 = Int32.ofNat d := by
      unfold vstep
      by_cases hv : von P V = true
      · rw [if_pos hv]
        show (if _ < _ then (-1 : Int32) else if _ ≤ 0 then -1 else Int32.ofNat d) = -1 ∨ (if _ < _ then (-1 : Int32) else if _ ≤ 0 then -1 else Int32.ofNat d) = Int32.ofNat d
        split
        · exact Or.inl rfl
        · split
          · exact Or.inl rfl
          · exact Or.inr rfl
      · rw [if_neg hv]; exact Or.inl h
    rcases hs with hs | hs
    · rcases trj_land (P := P) (e := e) (d := d + 1) (by omega) hs with h1 | ⟨L, h1, h2, h3⟩
      · exact Or.inl h1
      · exact Or.inr ⟨L, by omega, by omega, h3⟩
    · -- landed: nothing changes
      have stay : ∀ (e d' : Nat) (V : VS), d < 1000 → V.2.2.2.1 = Int32.ofNat d → (trj P e d' V).2.2.2.1 = Int32.ofNat d := by
        intro e
        induction e with
        | zero => intro d' V _ h; exact h
        | succ e ih =>
          intro d' V hd h
          refine ih (d' + 1) (vstep P d' V) hd ?_
          unfold vstep
          have : von P V = false := by
            unfold von
            rw [h, if_neg]
            intro z
            have := congrArg Int32.toInt z
            rw [p_nI (by omega)] at this
            have e : (-1 : Int32).toInt = -1 := rfl
            omega
          rw [if_neg (by rw [this]; decide)]
          exact h
      exact Or.inr ⟨d, by omega, by omega, stay e (d + 1) _ (by omega) hs⟩
/-- the voyage's parameters, out of the model's cells -/
def PV (I : Nat → Nat → Int32) (r b h L : Nat) (ra : Int32) (kb : Nat → Bool) (hid : Int32) : VP := (tn (I 89 0), I 91, shv (I 94 r) (I 95 r) (fun m => I 96 (8 * r + m)) (I 91) ra, (fun nm => evl (I b) nm 0 h), (fun nm => evl (I b) nm h L), I 95 r, ra, I 89 6, I 93, kb, hid)
def V0 (I : Nat → Nat → Int32) (hides : Int32) : VS := (I 90, I 89 4, 0, -1, hides)
theorem cB_of {N : Nat} (hN : 200 ≤ N) {ρ : Rh} {I : Nat → Nat → Int32} {J J' : Nat → Nat → Int64} (hI : Inv ρ I J) {r a : Nat} (hr8 : r < 8) (hra : vRule1 ρ I r a) {t l b h L : Nat} (h42 : ρ.1 42 6 = some l) (hl : ρ.2.1 l = (0, 2) ∧ ρ.1 l 1 = some b ∧ I l 2 = Int32.ofNat h ∧ ρ.2.1 b = (1, L) ∧ h ≤ L ∧ L < 160 ∧ seg (I b) 0 h ∧ seg (I b) h L ∧ ((l = 41 ∧ b = 40) ∨ (115 ≤ l ∧ b = l + 1))) {ra set hid hides : Int32} {kb : Nat → Bool} (hkb : ∀ m, m < tn (I 89 0) → ((((set) >>> (Int32.ofNat m &&& 31)) &&& 1) = 1 ↔ kb m = true)) : cB N (u2 ρ.1 48 8 (some a), ρ.2) J' (PV I r b h L ra kb hid) a l (sIn I ra set hid hides) := by
  obtain ⟨sh, hm, ht, hd, hp, hs, hr, hl', hf, hi, hw⟩ := hI
  obtain ⟨m1, m2, m3, m4, m5⟩ := id hm
  unfold bw at m2
  obtain ⟨t1, t2, t3, t4, t5, t6, t7, t8⟩ := id ht
  obtain ⟨l1, l2, l3, l4, l5, l6, l7, l8, l9⟩ := hl
  have tt := p_tnc (I 89 0) m2.1
  obtain ⟨s1, s2, s3, s4, s5, s6, s7, s8⟩ := @sIn_at I ra set hid hides
  have F : ∀ b j, ¬ (b = 48 ∧ 9 ≤ j) → ¬ b = 50 → ¬ (b = 76 ∧ j = 0) → ¬ (b = 77 ∧ j = 0) → sIn I ra set hid hides b j = I b j := fun b j h1 h2 h3 h4 => sIn_fr h1 h2 h3 h4
  have hra' := hra
  obtain ⟨a1, a2, a3, a4, a5, a6, a7, a8, a9, a10⟩ := hra'
  have kap : ∀ x k, (u2 ρ.1 48 8 (some a)) x k = if x = 48 ∧ k = 8 then some a else ρ.1 x k := by
    intro x k
    rw [u2_ap]
    by_cases h1 : x = 48
    · by_cases h2 : k = 8
      · rw [if_pos h1, if_pos h2, if_pos ⟨h1, h2⟩]
      · rw [if_pos h1, if_neg h2, if_neg (fun z : x = 48 ∧ k = 8 => h2 z.2)]
    · rw [if_neg h1, if_neg (fun z : x = 48 ∧ k = 8 => h1 z.1)]
  refine ⟨⟨?_, ?_⟩, fun m hm8 => ?_, s1, fun m hm8 => ?_, s3, ?_, fun q hq => ?_, ?_, (show isR (ρ.2.1 a) from rule_isR (ρ := ρ) hra), ⟨a1, ?_⟩, ?_, l1, ?_, ?_, ?_⟩
  · rw [F 42 0 (by omega) (by omega) (by omega) (by omega), m1]; exact (p_tnb m2.1).symm
  · show tn (I 89 0) ≤ 8; omega
  · have hm8' : m < tn (I 89 0) := hm8
    rw [F 44 m (by omega) (by omega) (by omega) (by omega)]; exact (m3 m (by omega)).2
  · rw [s2]; exact hkb m hm8
  · rw [F 45 3 (by omega) (by omega) (by omega) (by omega)]; exact t4
  · rw [F 47 q (by omega) (by omega) (by omega) (by omega)]; exact (hd q hq).2.1
  · show (u2 ρ.1 48 8 (some a)) 48 8 = some a
    exact u2_at
  · rw [F a 1 (by omega) (by omega) (by omega) (by omega)]; exact a5
  · show (u2 ρ.1 48 8 (some a)) 42 6 = some l
    rw [kap, if_neg (by omega)]; exact h42
  · intro X ho d m st many ah hm8 hd12 h13 h14 hmany h15 hst
    have hm8' : m < tn (I 89 0) := hm8
    have X48 : X 48 9 = ra := (ho 48 9 (by unfold VT; omega)).trans s1
    have XF : ∀ q j, ¬ VT q j → ¬ (q = 48 ∧ 9 ≤ j) → ¬ q = 50 → ¬ (q = 76 ∧ j = 0) → ¬ (q = 77 ∧ j = 0) → X q j = I q j := fun q j y0 y1 y2 y3 y4 => (ho q j y0).trans (F q j y1 y2 y3 y4)
    have hv : vRule1 (u2 ρ.1 48 8 (some a), ρ.2) X r a := by
      refine gr_vRule1 (ρ := ρ) (Grw.same sh _) (fun z1 z2 => u2_fr (by omega)) (fr_vRule1 (fun q j hq => XF q j (by unfold VT; omega) (by omega) (by omega) (by omega) (by omega)) hra)
    have e94 : X 94 r = I 94 r := XF 94 r (by unfold VT; omega) (by omega) (by omega) (by omega) (by omega)
    have e95 : X 95 r = I 95 r := XF 95 r (by unfold VT; omega) (by omega) (by omega) (by omega) (by omega)
    refine c_share (num := fun m => I 96 (8 * r + m)) (rw := I 91) hv e94.symm e95.symm (XF 96 _ (by unfold VT; omega) (by omega) (by omega) (by omega) (by omega)).symm (by omega) hd12 h13 h14 hmany X48 h15 hst ?_
    rw [XF 44 m (by unfold VT; omega) (by omega) (by omega) (by omega) (by omega)]; exact ((m3 m (by omega)).2).symm
  · intro X nm ho hnm
    refine c_row hN (b := b) (h := h) (L := L) (f := I b) l1 ?_ l4 (by omega) l5 l6 l8 (fun q => ?_) ?_ hnm
    · show (u2 ρ.1 48 8 (some a)) l 1 = some b
      rw [kap, if_neg (by omega)]; exact l2
    · exact (ho b q (by unfold VT; omega)).trans (F b q (by omega) (by omega) (by omega) (by omega))
    · rw [ho l 2 (by unfold VT; omega), F l 2 (by omega) (by omega) (by omega) (by omega)]; exact l3
  · intro X nm ho hnm
    refine c_need hN (b := b) (h := h) (L := L) (f := I b) l1 ?_ l4 (by omega) l5 l6 l7 (fun q => ?_) ?_ hnm
    · show (u2 ρ.1 48 8 (some a)) l 1 = some b
      rw [kap, if_neg (by omega)]; exact l2
    · exact (ho b q (by unfold VT; omega)).trans (F b q (by omega) (by omega) (by omega) (by omega))
    · rw [ho l 2 (by unfold VT; omega), F l 2 (by omega) (by omega) (by omega) (by omega)]; exact l3
