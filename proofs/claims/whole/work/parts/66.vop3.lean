/-! ===== the pure layer: means ===== -/
def sm (f : Nat → Nat) : Nat → Nat
  | 0 => 0
  | n + 1 => sm f n + f n
def ml (f : Nat → Nat) : Nat → Nat
  | 0 => 0
  | n + 1 => if n = 0 then f 0 else if ml f n ≤ f n then ml f n else f n
def wN (w : Int32) (n : Nat) (f : Nat → Nat) : Nat := if w = 0 then sm f n else ml f n
theorem sm_le {f : Nat → Nat} {B : Nat} : ∀ {n : Nat}, (∀ m, m < n → f m ≤ B) → sm f n ≤ n * B
  | 0, _ => by unfold sm; omega
  | n + 1, h => by
    have h1 := sm_le (f := f) (B := B) (n := n) (fun m hm => h m (by omega))
    have h2 := h n (by omega)
    unfold sm
    rw [Nat.succ_mul]
    omega
theorem ml_le {f : Nat → Nat} {B : Nat} : ∀ {n : Nat}, (∀ m, m < n → f m ≤ B) → ml f n ≤ B
  | 0, _ => by unfold ml; omega
  | n + 1, h => by
    have h0 := h 0 (by omega)
    have h1 := h n (by omega)
    unfold ml
    split
    · exact h0
    · split
      · exact ml_le (f := f) (B := B) (n := n) (fun m hm => h m (by omega))
      · exact h1
theorem wN_le {w : Int32} {f : Nat → Nat} {B n : Nat} (hn : n ≤ 8) (h : ∀ m, m < n → f m ≤ B) : wN w n f ≤ 8 * B := by
  have h1 := sm_le h
  have h2 := ml_le h
  have h3 : n * B ≤ 8 * B := Nat.mul_le_mul_right _ hn
  unfold wN
  split <;> omega
theorem wN_cong {w : Int32} {f g : Nat → Nat} {n : Nat} (h : ∀ m, m < n → f m = g m) : wN w n f = wN w n g := by
  have hs : ∀ k, k ≤ n → sm f k = sm g k := by
    intro k
    induction k with
    | zero => intro _; rfl
    | succ k ih => intro hk; unfold sm; rw [ih (by omega), h k (by omega)]
  have hl : ∀ k, k ≤ n → ml f k = ml g k := by
    intro k
    induction k with
    | zero => intro _; rfl
    | succ k ih => intro hk; unfold ml; rw [ih (by omega), h k (by omega), h 0 (by omega)]
  unfold wN
  rw [hs n (Nat.le_refl _), hl n (Nat.le_refl _)]
theorem c_worth {N : Nat} (hN : 200 ≤ N) {ρ : Rh} {I : Nat → Nat → Int32} {J : Nat → Nat → Int64} {n c : Nat} {x : Nat → Nat} {w : Int32} (hn : I 42 0 = Int32.ofNat n) (hn8 : n ≤ 8) (hJ : ∀ m, m < n → J 78 m = Int64.ofNat (c * x m)) (hx : ∀ m, m < n → c * x m ≤ 1000000000000) : f_X10_worth N ρ I J w = some (Int64.ofNat (c * wN w n x)) := by
  obtain ⟨st, hst⟩ : ∃ st : Nat → Nat, st = fun k => if k = 0 then (if n = 0 then 0 else 1000000000000) else c * ml x k := ⟨_, rfl⟩
  have cs : ∀ k, k ≤ n → c * sm x k ≤ k * 1000000000000 := by
    intro k
    induction k with
    | zero => intro _; show c * 0 ≤ _; rw [Nat.mul_zero]; exact Nat.zero_le _
    | succ k ih =>
      intro hk
      have := ih (by omega)
      have := hx k (by omega)
      unfold sm
      rw [Nat.mul_add, Nat.succ_mul]
      omega
  have cm : ∀ k, k ≤ n → st k ≤ 1000000000000 := by
    intro k
    induction k with
    | zero => intro _; rw [hst]; show (if 0 = 0 then _ else _) ≤ _; rw [if_pos rfl]; split <;> omega
    | succ k ih =>
      intro hk
      have h1 := ih (by omega)
      have h2 := hx k (by omega)
      rw [hst] at h1 ⊢
      show (if k + 1 = 0 then _ else c * ml x (k + 1)) ≤ _
      rw [if_neg (by omega)]
      unfold ml
      by_cases hk0 : k = 0
      · subst hk0; rw [if_pos rfl]; exact h2
      · rw [if_neg hk0]
        have h1' : (if k = 0 then (if n = 0 then 0 else 1000000000000) else c * ml x k) ≤ 1000000000000 := h1
        rw [if_neg hk0] at h1'
        split
        · exact h1'
        · exact h2
  have loop : ∀ (e k fuel : Nat), k + e = n → e < fuel → f_X10_worth_24 N I J ρ w fuel (Int64.ofNat (c * sm x k)) (Int64.ofNat (st k)) (Int32.ofNat k) = some (Int64.ofNat (c * sm x n), Int64.ofNat (st n)) := by
    intro e
    induction e with
    | zero =>
      intro k fuel z1 z2
      cases fuel with
      | zero => omega
      | succ fuel => rw [f_X10_worth_24.eq_2, hn, if_pos ((p_ge (by omega) (by omega)).mpr (by omega)), show k = n by omega]
    | succ e ih =>
      intro k fuel z1 z2
      cases fuel with
      | zero => omega
      | succ fuel =>
        have xk := p_ixn (k := k) (n := 8) (by omega) (by omega)
        have a1 := cs k (by omega)
        have a1' := cs (k + 1) (by omega)
        have a2 := cm k (by omega)
        have a3 := hx k (by omega)
        have k8 : k * 1000000000000 ≤ 8 * 1000000000000 := Nat.mul_le_mul_right _ (by omega)
        have t1 : (Int64.ofNat (c * sm x k)).toInt = ((c * sm x k : Nat) : Int) := q_nL (by omega)
        have t2 : (Int64.ofNat (c * x k)).toInt = ((c * x k : Nat) : Int) := q_nL (by omega)
        have t3 : (Int64.ofNat (st k)).toInt = ((st k : Nat) : Int) := q_nL (by omega)
        have es : Int64.ofNat (c * sm x k) + Int64.ofNat (c * x k) = Int64.ofNat (c * sm x (k + 1)) := by
          have : c * sm x (k + 1) = c * sm x k + c * x k := by unfold sm; rw [Nat.mul_add]; cases k <;> rfl
          refine q_of (by omega) ?_
          rw [q_add (by omega) (by omega), t1, t2, this]
          omega
        have em : (if Int64.ofNat (c * x k) < Int64.ofNat (st k) then Int64.ofNat (c * x k) else Int64.ofNat (st k)) = Int64.ofNat (st (k + 1)) := by
          have hs1 : st (k + 1) = c * ml x (k + 1) := by rw [hst]; show (if k + 1 = 0 then _ else c * ml x (k + 1)) = _; rw [if_neg (by omega)]
          by_cases hk0 : k = 0
          · subst hk0
            have e0 : st 0 = 1000000000000 := by rw [hst]; show (if 0 = 0 then _ else _) = _; rw [if_pos rfl, if_neg (by omega)]
            have e1 : ml x (0 + 1) = x 0 := by unfold ml; rw [if_pos rfl]
            rw [hs1, e1]
            by_cases q : c * x 0 < st 0
            · rw [if_pos (by rw [fa_lt64, t2, t3]; omega)]
            · rw [if_neg (by rw [fa_lt64, t2, t3]; omega)]
              congr 1
              omega
          · have e0 : st k = c * ml x k := by rw [hst]; show (if k = 0 then _ else c * ml x k) = _; rw [if_neg hk0]
            have e1 : ml x (k + 1) = if ml x k ≤ x k then ml x k else x k := by
              show (if k = 0 then _ else _) = _
              rw [if_neg hk0]
            rw [hs1, e1]
            by_cases q : ml x k ≤ x k
            · have : c * ml x k ≤ c * x k := Nat.mul_le_mul_left _ q
              rw [if_pos q, if_neg (by rw [fa_lt64, t2, t3]; omega), e0]
            · rw [if_neg q]
              have : c * x k ≤ c * ml x k := Nat.mul_le_mul_left _ (by omega)
              by_cases q2 : c * x k < st k
              · rw [if_pos (by rw [fa_lt64, t2, t3]; omega)]
              · rw [if_neg (by rw [fa_lt64, t2, t3]; omega)]
                congr 1
                omega
        rw [f_X10_worth_24.eq_2, hn, if_neg (fun z => absurd ((p_ge (by omega) (by omega)).mp z) (by omega)), if_pos xk, if_pos xk, p_tnI (by omega), hJ k (by omega)]
        simp only [bnd]
        rw [em, es, p_succ (by omega)]
        exact ih (k + 1) fuel (by omega) (by omega)
  have L := loop n 0 N (by omega) (by omega)
  rw [show Int32.ofNat 0 = (0 : Int32) from rfl, show Int64.ofNat (c * sm x 0) = (0 : Int64) from rfl] at L
  have j1 : (if ((I 42 0) ≤ (0)) then some (0 : Int64) else some (1000000000000 : Int64)) = some (Int64.ofNat (st 0)) := by
    have e0 : st 0 = if n = 0 then 0 else 1000000000000 := by rw [hst]; rfl
    rw [hn, e0]
    by_cases q : n = 0
    · rw [if_pos q, if_pos (by rw [q]; decide)]; rfl
    · rw [if_neg q, if_neg (show ¬ Int32.ofNat n ≤ 0 from fun z => absurd ((p_ge (n := n) (m := 0) (by omega) (by omega)).mp z) (by omega))]; rfl
  unfold f_X10_worth
  rw [j1]
  simp only [Option.bind_some]
  rw [L]
  simp only [Option.bind_some]
  unfold wN
  by_cases hw : w = 0
  · rw [if_pos hw, if_pos hw]
  · rw [if_neg hw, if_neg hw]
    have e1 : st n = c * ml x n := by
      rw [hst]
      show (if n = 0 then _ else c * ml x n) = _
      by_cases q : n = 0
      · subst q; rw [if_pos rfl, if_pos rfl]; rfl
      · rw [if_neg q]
    rw [e1]
theorem mok_chn {X : Nat → Nat → Int32} {f : Nat → Int32} {r t h L : Nat} (k : mOk X f r t h L) (d : Nat) : chn X d ≤ 9 := by
  unfold chn
  split
  · rename_i h12
    have := (k.2.2.2.2.1 d h12).1
    unfold bw at this
    have := p_tnc (X 92 d) this.1
    omega
  · omega
/-- the model's mean over any heap that is fit for a voyage -/
def HX (X : Nat → Nat → Int32) (f : Nat → Int32) (r h L : Nat) (m : Nat) : Nat := HM (tn (X 89 3)) (chn X) (PM X f r h L (fun _ => true) (-1)) (V0 X 0) (tn (X 89 3)) m
theorem m_meanG {N : Nat} (hN : 200 ≤ N) {ρ : Rh} {X : Nat → Nat → Int32} {J : Nat → Nat → Int64} {f : Nat → Int32} {r t h L : Nat} (hk : mOk X f r t h L) (w : Int32) : ∃ X1, f_X12_meanOf N ρ X J (Int32.ofNat r) w = some (X1, Int64.ofNat (wN w (tn (X 89 0)) (HX X f r h L))) ∧ (∀ q j, ¬ MT q j → X1 q j = X q j) ∧ (∀ m, HX X f r h L m ≤ 10 ^ tn (X 89 3)) := by
  obtain ⟨k0, k3, k4, k5, k6, k7, k8, k9, k10, k11, k12, k13, k14, k15, k16, k17, k18, k19⟩ := id hk
  unfold bw at k0 k3
  have tt := p_tnc (X 89 0) k0.1
  have t3 := p_tnc (X 89 3) (by omega)
  have hn : X 89 0 = Int32.ofNat (tn (X 89 0)) := (p_tnb k0.1).symm
  have hle : ∀ m, HX X f r h L m ≤ 10 ^ tn (X 89 3) := fun m => homeN_le (fun d _ => mok_chn hk d) (vS_le (by omega) rfl)
  have pD := pow12 (n := tn (X 89 3)) (by omega)
  obtain ⟨X1, a1, a2, a3⟩ := m_goes hN (ρ := ρ) (J := J) hk (set := ((1 : Int32) <<< (Int32.ofNat (tn (X 89 0)) &&& 31)) - 1) (hid := -1) (hides := 0) (kb := fun _ => true) (fun m hm => bitall (by omega) hm)
  have hh : ∀ m, m < tn (X 89 0) → f_X12_homeOf N ρ X1 J (Int32.ofNat m) = some (Int64.ofNat (HX X f r h L m)) := by
    intro m hm
    exact m_homeOf hN (by omega) (by omega) rfl ((a2 89 3 (by unfold MT; omega)).trans (p_tnb (by omega)).symm) (fun d => mok_chn hk d) (fun q hq => by
      rw [a2 92 q (by unfold MT; omega)]
      unfold chn
      rw [if_pos hq]
      exact (p_tnb (k6 q hq).1.1).symm) a3 hm (by show tn (X 89 0) ≤ 8; omega)
  have hn1 : X1 89 0 = Int32.ofNat (tn (X 89 0)) := (a2 89 0 (by unfold MT; omega)).trans hn
  have cs : ∀ k, k ≤ tn (X 89 0) → sm (HX X f r h L) k ≤ 8 * 1000000000000 := by
    intro k hk
    have := sm_le (f := HX X f r h L) (B := 10 ^ tn (X 89 3)) (n := k) (fun m _ => hle m)
    have : k * 10 ^ tn (X 89 3) ≤ 8 * 1000000000000 := Nat.mul_le_mul (by omega) pD
    omega
  have cm : ∀ k, ml (HX X f r h L) k ≤ 1000000000000 := by
    intro k
    have := ml_le (f := HX X f r h L) (B := 10 ^ tn (X 89 3)) (n := k) (fun m _ => hle m)
    omega
  have loop : ∀ (e k fuel : Nat), k + e = tn (X 89 0) → e < fuel → f_X12_meanOf_13 N X1 J ρ w fuel (Int64.ofNat (sm (HX X f r h L) k)) (Int64.ofNat (ml (HX X f r h L) k)) (Int32.ofNat k) = some (Int64.ofNat (sm (HX X f r h L) (tn (X 89 0))), Int64.ofNat (ml (HX X f r h L) (tn (X 89 0)))) := by
    intro e
    induction e with
    | zero =>
      intro k fuel z1 z2
      cases fuel with
      | zero => omega
      | succ fuel => rw [f_X12_meanOf_13.eq_2, hn1, if_pos ((p_ge (by omega) (by omega)).mpr (by omega)), show k = tn (X 89 0) by omega]
    | succ e ih =>
      intro k fuel z1 z2
      cases fuel with
      | zero => omega
      | succ fuel =>
        have b1 := cs k (by omega)
        have b2 := cs (k + 1) (by omega)
        have b3 := cm k
        have b4 := hle k
        have t1 : (Int64.ofNat (sm (HX X f r h L) k)).toInt = ((sm (HX X f r h L) k : Nat) : Int) := q_nL (by omega)
        have t2 : (Int64.ofNat (HX X f r h L k)).toInt = ((HX X f r h L k : Nat) : Int) := q_nL (by omega)
        have t4 : (Int64.ofNat (ml (HX X f r h L) k)).toInt = ((ml (HX X f r h L) k : Nat) : Int) := q_nL (by omega)
        have es : Int64.ofNat (sm (HX X f r h L) k) + Int64.ofNat (HX X f r h L k) = Int64.ofNat (sm (HX X f r h L) (k + 1)) := by
          have : sm (HX X f r h L) (k + 1) = sm (HX X f r h L) k + HX X f r h L k := rfl
          refine q_of (by omega) ?_
          rw [q_add (by omega) (by omega), t1, t2, this]
          omega
        have em : (if (Int32.ofNat k = 0) then some (Int64.ofNat (HX X f r h L k)) else (if (Int64.ofNat (ml (HX X f r h L) k) ≤ Int64.ofNat (HX X f r h L k)) then some (Int64.ofNat (ml (HX X f r h L) k)) else some (Int64.ofNat (HX X f r h L k)))) = some (Int64.ofNat (ml (HX X f r h L) (k + 1))) := by
          have e1 : ml (HX X f r h L) (k + 1) = if k = 0 then HX X f r h L 0 else if ml (HX X f r h L) k ≤ HX X f r h L k then ml (HX X f r h L) k else HX X f r h L k := rfl
          rw [e1]
          by_cases hk0 : k = 0
          · subst hk0
            rw [if_pos rfl]
            exact if_pos (show Int32.ofNat 0 = 0 from rfl)
          · rw [if_neg (by intro z; have := congrArg Int32.toInt z; rw [p_nI (by omega)] at this; have e : (0 : Int32).toInt = 0 := rfl; omega), if_neg hk0]
            by_cases q : ml (HX X f r h L) k ≤ HX X f r h L k
            · rw [if_pos (by rw [fa_le64, t4, t2]; omega), if_pos q]
            · rw [if_neg (by rw [fa_le64, t4, t2]; omega), if_neg q]
        rw [f_X12_meanOf_13.eq_2, hn1, if_neg (fun z => absurd ((p_ge (by omega) (by omega)).mp z) (by omega)), hh k (by omega)]
        simp only [Option.bind_some]
        rw [em]
        simp only [Option.bind_some]
        rw [es, p_succ (by omega)]
        exact ih (k + 1) fuel (by omega) (by omega)
  have L1 := loop (tn (X 89 0)) 0 N (by omega) (by omega)
  refine ⟨X1, ?_, a2, hle⟩
  have gp : f_X12_goesPlain N ρ X J (Int32.ofNat r) = some X1 := by
    unfold f_X12_goesPlain f_X12_all
    simp only [Option.bind_some]
    rw [← hn] at a1
    rw [a1]
    rfl
  unfold f_X12_meanOf
  rw [gp]
  simp only [Option.bind_some]
  rw [show Int32.ofNat 0 = (0 : Int32) from rfl, show Int64.ofNat (sm (HX X f r h L) 0) = (0 : Int64) from rfl, show Int64.ofNat (ml (HX X f r h L) 0) = (0 : Int64) from rfl] at L1
  rw [L1]
  simp only [Option.bind_some]
  unfold wN
  by_cases hw : w = 0
  · rw [if_pos hw, if_pos hw]
  · rw [if_neg hw, if_neg hw]
