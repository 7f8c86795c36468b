/-! ===== the pure layer: the machine over tokens reads as the levels do ===== -/
theorem tgN_5 (s : Int32) : tgN s = 9 ∨ tgN s < 5 := by
  obtain ⟨k1, _, _⟩ := tgN_rk s
  omega
theorem no_end {T : Nat → Int32} (hT : ∀ i, 160 ≤ i → T i = -21) {i : Nat} (h : ¬ T i = -21) : i < 160 := by
  apply Decidable.byContradiction
  intro z
  exact h (hT i (by omega))
theorem sim {T : Nat → Int32} (hT : ∀ i, 160 ≤ i → T i = -21) : ∀ f : Nat,
    (∀ i o H md, 7 * (5 - o) + 1 ≤ f → o ≤ 5 → i ≤ 160 → (md = 2 ∧ ¬ T i = -8 ∨ md = 1) → oneR T i o H md (lvp T f true i 0 o)) ∧
    (∀ i t o H md, 7 * (5 - o) + (7 - t) ≤ f → t ≤ 5 → o ≤ 5 → i ≤ 160 → lo (prT t) H → (md = 2 ∧ (3 ≤ t → ¬ T i = -8) ∨ md = 1 ∧ 3 ≤ t) → levR T t i o H md (lvp T f false i t o))
  | 0 => ⟨fun i o H md h => absurd h (by omega), fun i t o H md h h5 => absurd h (by omega)⟩
  | f + 1 => by
    obtain ⟨ih1, ih2⟩ := sim hT f
    constructor
    · intro i o H md hf ho hi hm
      obtain ⟨m, hmd⟩ : ∃ m, md = m + 1 := ⟨md - 1, by omega⟩
      have e1 := mr_1 (T := T) hi H o m
      rw [← hmd] at e1
      by_cases c6 : -6 ≤ (T i).toInt
      · have e0 : lvp T (f + 1) true i 0 o = (true, i + 1, [T i]) := by
          show (if -6 ≤ (T i).toInt then _ else _) = _
          rw [if_pos c6]
        have hlt : i < 160 := no_end hT (by intro z; rw [z] at c6; exact absurd c6 (by decide))
        rw [e0]
        refine .inl ⟨rfl, by show i < i + 1; omega, by show i + 1 ≤ 160; omega, ?_⟩
        rw [e1, if_pos c6, app_app]
        rfl
      rw [if_neg c6] at e1
      by_cases c14 : T i = -14
      · rw [if_pos c14] at e1
        have hlt : i < 160 := no_end hT (by rw [c14]; decide)
        by_cases c5 : 5 ≤ o
        · have e0 : lvp T (f + 1) true i 0 o = (false, i, []) := by
            show (if -6 ≤ (T i).toInt then _ else if T i = -14 then (if 5 ≤ o then _ else _) else _) = _
            rw [if_neg c6, if_pos c14, if_pos c5]
          rw [if_pos (by omega)] at e1
          rw [e0]
          exact .inr ⟨rfl, Nat.le_refl _, hi, by rw [e1], by rw [e1]⟩
        · rw [if_neg (by omega)] at e1
          obtain ⟨q, hq⟩ : ∃ q, q = lvp T f true (i + 1) 0 (o + 1) := ⟨_, rfl⟩
          have e0 : lvp T (f + 1) true i 0 o = (q.1, q.2.1, if q.1 = true then q.2.2 ++ [-7] else q.2.2) := by
            show (if -6 ≤ (T i).toInt then _ else if T i = -14 then (if 5 ≤ o then _ else _) else _) = _
            rw [if_neg c6, if_pos c14, if_neg c5, hq]
          have ih := ih1 (i + 1) (o + 1) (-7 :: H) 1 (by omega) (by omega) (by omega) (.inr rfl)
          rw [← hq] at ih
          rcases ih with ⟨a1, a2, a3, a4⟩ | ⟨a1, a2, a3, a4, a5⟩
          · rw [if_pos a1] at e0
            have eu : uw 7 (-7 :: H) (o + 1) = ((uw 7 H o).1, (uw 7 H o).2.1, -7 :: (uw 7 H o).2.2) := by
              show (if rkc (-7) < 7 then _ else ((uw 7 H (o + 1 - opw (-7))).1, (uw 7 H (o + 1 - opw (-7))).2.1, -7 :: (uw 7 H (o + 1 - opw (-7))).2.2)) = _
              rw [if_neg (by decide), show o + 1 - opw (-7) = o from rfl]
            refine .inl ?_
            rw [e0]
            refine ⟨a1, by show i < q.2.1; omega, a3, ?_⟩
            rw [e1, a4, eu]
            show app q.2.2 (app (-7 :: (uw 7 H o).2.2) (mr T q.2.1 (uw 7 H o).1 (uw 7 H o).2.1 0)) = app (q.2.2 ++ [-7]) (app (uw 7 H o).2.2 (mr T q.2.1 (uw 7 H o).1 (uw 7 H o).2.1 0))
            rw [app_app, app_app, List.append_assoc]
            rfl
          · refine .inr ?_
            rw [e0]
            exact ⟨a1, by show i ≤ q.2.1; omega, a3, by rw [e1]; exact a4, by rw [e1]; exact a5⟩
      rw [if_neg c14] at e1
      by_cases c18 : T i = -18
      · rw [if_pos c18] at e1
        have hlt : i < 160 := no_end hT (by rw [c18]; decide)
        by_cases c5 : 5 ≤ o
        · have e0 : lvp T (f + 1) true i 0 o = (false, i, []) := by
            show (if -6 ≤ (T i).toInt then _ else if T i = -14 then _ else if T i = -18 then (if 5 ≤ o then _ else _) else _) = _
            rw [if_neg c6, if_neg c14, if_pos c18, if_pos c5]
          rw [if_pos (by omega)] at e1
          rw [e0]
          exact .inr ⟨rfl, Nat.le_refl _, hi, by rw [e1], by rw [e1]⟩
        · rw [if_neg (by omega)] at e1
          obtain ⟨q, hq⟩ : ∃ q, q = lvp T f false (i + 1) 0 (o + 1) := ⟨_, rfl⟩
          have e0 : lvp T (f + 1) true i 0 o = (if q.1 = true then (if T q.2.1 = -19 then (true, q.2.1 + 1, q.2.2) else (false, q.2)) else q) := by
            show (if -6 ≤ (T i).toInt then _ else if T i = -14 then _ else if T i = -18 then (if 5 ≤ o then _ else _) else _) = _
            rw [if_neg c6, if_neg c14, if_pos c18, if_neg c5, hq]
          have ih := ih2 (i + 1) 0 (o + 1) (-18 :: H) 2 (by omega) (by omega) (by omega) (by omega) (by show rkc (-18) < prT 0; decide) (.inl ⟨rfl, fun z => absurd z (by omega)⟩)
          rw [← hq] at ih
          rcases ih with ⟨a1, a2, a3, out, P, a4, a5, a6, a7⟩ | ⟨a1, a2, a3, a4, a5⟩
          · rw [if_pos a1] at e0
            by_cases c19 : T q.2.1 = -19
            · rw [if_pos c19] at e0
              have hq2 : q.2.1 < 160 := no_end hT (by rw [c19]; decide)
              have eu : uw 1 (P ++ -18 :: H) (o + 1 + cn P) = (-18 :: H, o + 1, P) := uw_pd (o + 1) a5 (by show rkc (-18) < 1; decide)
              have e2 := mr_0 (T := T) a3 (P ++ -18 :: H) (o + 1 + cn P)
              rw [if_neg (by rw [c19]; decide), if_pos c19, eu, if_neg (fun z => List.cons_ne_nil _ _ z)] at e2
              refine .inl ?_
              rw [e0]
              refine ⟨rfl, by show i < q.2.1 + 1; omega, by show q.2.1 + 1 ≤ 160; omega, ?_⟩
              rw [e1, a7, e2, a4]
              show app out (app (P ++ (uw 7 H o).2.2) (mr T (q.2.1 + 1) (uw 7 H o).1 (uw 7 H o).2.1 0)) = app (out ++ P) (app (uw 7 H o).2.2 (mr T (q.2.1 + 1) (uw 7 H o).1 (uw 7 H o).2.1 0))
              rw [app_app, app_app, List.append_assoc]
            · rw [if_neg c19] at e0
              have hst : (mr T q.2.1 (P ++ -18 :: H) (o + 1 + cn P) 0).1 = false ∧ (mr T q.2.1 (P ++ -18 :: H) (o + 1 + cn P) 0).2.1 = q.2.1 := by
                by_cases c20 : T q.2.1 = -20
                · have eu : uw 1 (P ++ -18 :: H) (o + 1 + cn P) = (-18 :: H, o + 1, P) := uw_pd (o + 1) a5 (by show rkc (-18) < 1; decide)
                  rw [mr_0 a3, if_pos c20, eu, if_neg (fun z => List.cons_ne_nil _ _ z)]
                  exact ⟨rfl, rfl⟩
                · exact mr_stuck a3 a6 c20 c19 _ _
              refine .inr ?_
              rw [e0]
              refine ⟨rfl, by show i ≤ q.2.1; omega, a3, ?_, ?_⟩
              · rw [e1, a7]; exact hst.1
              · rw [e1, a7]; exact hst.2
          · rw [if_neg (by rw [a1]; exact Bool.false_ne_true)] at e0
            refine .inr ?_
            rw [e0]
            exact ⟨a1, by omega, a3, by rw [e1]; exact a4, by rw [e1]; exact a5⟩
      rw [if_neg c18] at e1
      have e0 : lvp T (f + 1) true i 0 o = (false, i, []) := by
        show (if -6 ≤ (T i).toInt then _ else if T i = -14 then _ else if T i = -18 then _ else (false, i, [])) = _
        rw [if_neg c6, if_neg c14, if_neg c18]
      have e2 : mr T i H o md = (false, i, []) := by
        rw [e1]
        by_cases c8 : T i = -8
        · rw [if_pos c8, if_pos (by rcases hm with ⟨_, z⟩ | z; exact absurd c8 z; omega)]
        · rw [if_neg c8]
      rw [e0]
      exact .inr ⟨rfl, Nat.le_refl _, hi, by rw [e2], by rw [e2]⟩
    · intro i t o H md hf ht5 ho hi hH hm
      by_cases t4 : t ≤ 4
      · by_cases cnn : t = 2 ∧ T i = -8
        · have hlt : i < 160 := no_end hT (by rw [cnn.2]; decide)
          obtain ⟨c2, c8⟩ := cnn
          have hmd : md = 2 := by omega
          have e1 : mr T i H o md = if o = 5 then (false, i, []) else mr T (i + 1) (-8 :: H) (o + 1) 2 := by
            rw [hmd, mr_1 hi H o 1, c8, if_neg (by decide), if_neg (by decide), if_neg (by decide), if_pos rfl, if_neg (by decide)]
          by_cases c5 : 5 ≤ o
          · have e0 : lvp T (f + 1) false i t o = (false, i, []) := by
              show (if t ≤ 4 then (if t = 2 ∧ T i = -8 then (if 5 ≤ o then _ else _) else _) else _) = _
              rw [if_pos t4, if_pos ⟨c2, c8⟩, if_pos c5]
            rw [if_pos (by omega)] at e1
            rw [e0]
            exact .inr ⟨rfl, Nat.le_refl _, hi, by rw [e1], by rw [e1]⟩
          · rw [if_neg (by omega)] at e1
            obtain ⟨q, hq⟩ : ∃ q, q = lvp T f false (i + 1) 2 (o + 1) := ⟨_, rfl⟩
            have e0 : lvp T (f + 1) false i t o = (q.1, q.2.1, if q.1 = true then q.2.2 ++ [-8] else q.2.2) := by
              show (if t ≤ 4 then (if t = 2 ∧ T i = -8 then (if 5 ≤ o then _ else _) else _) else _) = _
              rw [if_pos t4, if_pos ⟨c2, c8⟩, if_neg c5, hq]
            have ih := ih2 (i + 1) 2 (o + 1) (-8 :: H) 2 (by omega) (by omega) (by omega) (by omega) (by show rkc (-8) < prT 2; decide) (.inl ⟨rfl, fun z => absurd z (by omega)⟩)
            rw [← hq] at ih
            rcases ih with ⟨a1, a2, a3, out, P, a4, a5, a6, a7⟩ | ⟨a1, a2, a3, a4, a5⟩
            · rw [if_pos a1] at e0
              refine .inl ?_
              rw [e0]
              refine ⟨a1, by show i < q.2.1; omega, a3, out, P ++ [-8], ?_, fun p hp => ?_, ?_, ?_⟩
              · show q.2.2 ++ [-8] = _
                rw [a4, List.append_assoc]
              · rw [c2]
                rcases List.mem_append.mp hp with z | z
                · exact a5 p z
                · rw [List.mem_singleton] at z; rw [z]; decide
              · rw [c2]
                rcases a6 with z | z | ⟨z, zb⟩
                · exact .inl z
                · exact .inr (.inl z)
                · exact .inr (.inr ⟨z, blk_app zb _⟩)
              · rw [e1, a7, cn_app, List.append_assoc]
                show app out (mr T q.2.1 (P ++ -8 :: H) (o + 1 + cn P) 0) = app out (mr T q.2.1 (P ++ -8 :: H) (o + (cn P + 1)) 0)
                rw [show o + 1 + cn P = o + (cn P + 1) by omega]
            · rw [if_neg (by rw [a1]; exact Bool.false_ne_true)] at e0
              refine .inr ?_
              rw [e0]
              exact ⟨a1, by show i ≤ q.2.1; omega, a3, by rw [e1]; exact a4, by rw [e1]; exact a5⟩
        · obtain ⟨q, hq⟩ : ∃ q, q = lvp T f false i (t + 1) o := ⟨_, rfl⟩
          obtain ⟨lim, hlim⟩ : ∃ lim : Nat, lim = if t = 2 then 1 else 160 := ⟨_, rfl⟩
          obtain ⟨s, hs⟩ : ∃ s, s = lsg T (fun i => lvp T f false i (t + 1) o) t lim q.2.1 := ⟨_, rfl⟩
          have e0 : lvp T (f + 1) false i t o = (if q.1 = true then (s.1, s.2.1, q.2.2 ++ s.2.2) else q) := by
            show (if t ≤ 4 then (if t = 2 ∧ T i = -8 then _ else _) else _) = _
            rw [if_pos t4, if_neg cnn, hs, hlim, hq]
          obtain ⟨d1, d2, d3, d4, d5, d6⟩ := prd t t4
          have ih := ih2 i (t + 1) o H md (by omega) (by omega) ho hi (lo_le d2 hH) (by
            rcases hm with ⟨z1, z2⟩ | ⟨z1, z2⟩
            · refine .inl ⟨z1, fun z => ?_⟩
              by_cases t2 : t = 2
              · exact fun y => cnn ⟨t2, y⟩
              · exact z2 (by omega)
            · exact .inr ⟨z1, by omega⟩)
          rw [← hq] at ih
          rcases ih with ⟨a1, a2, a3, out, P, a4, a5, a6, a7⟩ | ⟨a1, a2, a3, a4, a5⟩
          · rw [if_pos a1] at e0
            have hl1 : t = 2 → lim ≤ 1 := fun z => by rw [hlim, if_pos z]; omega
            have hl2 : ¬ t = 2 → lim = 160 := fun z => by rw [hlim, if_neg z]
            have hl0 : ¬ lim = 0 := by rw [hlim]; split <;> omega
            have ls := sim_lsg hT t4 (o := o) (R := fun i => lvp T f false i (t + 1) o) hH (fun i H md h1 h2 h3 => ih2 i (t + 1) o H md (by omega) (by omega) ho h1 h2 (by
              rcases h3 with ⟨z1, z2⟩ | ⟨z1, z2⟩
              · exact .inl ⟨z1, fun z => absurd z (by omega)⟩
              · exact .inr ⟨z1, z2⟩)) lim q.2.1 P a3 (fun _ p hp => by have := a5 p hp; omega) (fun p hp => by have := a5 p hp; omega) (fun z => absurd z hl0) a6 hl1 (fun z => by rw [hl2 z]; omega)
            rw [← hs] at ls
            rcases ls with ⟨b1, b2, b3, out2, P2, b4, b5, b6, b7⟩ | ⟨b1, b2, b3, b4, b5⟩
            · refine .inl ?_
              rw [e0]
              refine ⟨b1, by show i < s.2.1; omega, b3, out ++ out2, P2, ?_, b5, b6, ?_⟩
              · show q.2.2 ++ s.2.2 = _
                rw [a4, List.append_assoc, b4, List.append_assoc]
              · rw [a7, b7, app_app]
            · refine .inr ?_
              rw [e0]
              exact ⟨b1, by show i ≤ s.2.1; omega, b3, by rw [a7]; exact b4, by rw [a7]; exact b5⟩
          · rw [if_neg (by rw [a1]; exact Bool.false_ne_true)] at e0
            refine .inr ?_
            rw [e0]
            exact ⟨a1, a2, a3, a4, a5⟩
      · have t5 : t = 5 := by omega
        have e0 : lvp T (f + 1) false i t o = lvp T f true i 0 o := by
          show (if t ≤ 4 then _ else lvp T f true i 0 o) = _
          rw [if_neg t4]
        have ih := ih1 i o H md (by omega) ho hi (by
          rcases hm with ⟨z1, z2⟩ | ⟨z1, z2⟩
          · exact .inl ⟨z1, z2 (by omega)⟩
          · exact .inr z1)
        rw [← e0] at ih
        have hl : lo 7 H := by rw [t5] at hH; exact hH
        rcases ih with ⟨a1, a2, a3, a4⟩ | a
        · rw [uw_lo hl] at a4
          refine .inl ⟨a1, a2, a3, (lvp T (f + 1) false i t o).2.2, [], by rw [List.append_nil], fun p hp => absurd hp (by exact List.not_mem_nil), ?_, a4⟩
          rw [t5]
          rcases tgN_5 (T (lvp T (f + 1) false i 5 o).2.1) with z | z
          · exact .inl z
          · exact .inr (.inl z)
        · exact .inr a
