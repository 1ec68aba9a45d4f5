/-! the law's trades() -/
theorem ctr_loop {P : PD} {E o y : Nat → Nat} (hC : CO P E y) : ∀ m c fuel M, y 3 - c = m → c ≤ y 3 → m < fuel → StB (M 0) P E o y → HS M → ∃ M' : Mem, FL_trades_317 fuel (nI (pn P)) 1 (nI (y 3)) (nI (sumN (fun i => y (276 + i)) c)) (nI c) M = some (1, M') ∧ StB (M' 0) P E o y ∧ HS M' := by
  intro m
  induction m with
  | zero =>
    intro c fuel M hm hc hf h hS
    have hk := h.2.2.2.1
    obtain ⟨k, rfl⟩ : ∃ k, fuel = k + 1 := ⟨fuel - 1, by omega⟩
    have e : c = y 3 := by omega
    subst e
    refine ⟨M, ?_, h, hS⟩
    show FL_trades_317s _ _ _ _ _ _ _ = _
    unfold FL_trades_317s FL_trades_428
    rw [le_nI (by omega) (by omega), if_pos (Nat.le_refl _), if_neg (show ¬ (1 : Int32) = 0 by decide), n7 h, c1_eq, if_pos rfl, l_times h, c2_eq, if_neg (show ¬ (1 : Int32) = 0 by decide)]
  | succ m ih =>
    intro c fuel M hm hc hf h hS
    have hk := h.2.2.2.1
    have hn := h.n
    obtain ⟨k, rfl⟩ : ∃ k, fuel = k + 1 := ⟨fuel - 1, by omega⟩
    have hc' : c < y 3 := by omega
    obtain ⟨r1, r2, r3, r4⟩ := r_ofC h hc'
    obtain ⟨q1, q2, q3, q4, q5⟩ := hC c hc'
    obtain ⟨g1, g2, g3, g4⟩ := h.2.2.2.2.2.2.2 c hc'
    obtain ⟨s, hs⟩ : ∃ s, y (196 + c) = s := ⟨_, rfl⟩
    obtain ⟨b, hb⟩ : ∃ b, y (236 + c) = b := ⟨_, rfl⟩
    rw [hs, hb] at q1 q4 q5
    rw [hs] at q3 r1 g1
    rw [hb] at r2 g2
    obtain ⟨M1, d1, d2, d3⟩ := l_dist h g1 g2
    obtain ⟨M2, e1, e2, e3⟩ := l_dist d2 g2 g1
    have hr := h.2.2.1
    obtain ⟨w1, w2⟩ := lkv_symm (r := y 2) g2 hn g1 hr.2 q1 q4 q5
    have hz : E s - y (52 + s) = 0 := by omega
    have hsum : sumN (fun i => y (276 + i)) (c + 1) = sumN (fun i => y (276 + i)) c + y (276 + c) := rfl
    obtain ⟨M3, i1, i2, i3⟩ := ih (c + 1) k M2 (by omega) (by omega) (by omega) e2 (hs_cg hS (by rw [e3 11 (by decide), d3 11 (by decide)]))
    refine ⟨M3, ?_, i2, i3⟩
    show FL_trades_317s (FL_trades_317 k) _ _ _ _ _ _ = _
    unfold FL_trades_317s
    rw [le_nI (by omega) (by omega), if_neg (by omega), if_neg (show ¬ (1 : Int32) = 0 by decide), r1, c1_eq, r2, c1_eq, r3, c1_eq, lt1_eq, nI_add, eq_nI (by omega) (by omega), if_neg q1, c1_eq, if_nIle0 (by omega), if_neg (by omega), o6 h g1, c2_eq, hz, if_pos (show nI 0 = 0 from rfl), d1, c2_eq, n11 d2, c1_eq, if_neg w1, e1, c2_eq, if_neg w2, lt1_eq, nI_1]
    rw [hsum] at i1
    exact i1
theorem trade_ti {P : PD} (hn : pn P ≤ 24) {E y : Nat → Nat} (hY : YB (pn P) y) (hC : CO P E y) : TI P E (sumN (fun t => y (52 + t)) (pn P)) (sumN (fun t => y (76 + t)) (pn P)) (y 1) (tradeL P E (pn P) 0 y) :=
  tradeL_ind hn (Q := fun _ => True) (ti_step hn) _ _ _ (fun _ _ _ => trivial) ⟨hY, hC, rfl, rfl, rfl⟩
/-- behind the trade -/
theorem trades_end {M : Mem} {P : PD} {E o y : Nat → Nat} (h : StB (M 0) P E o y) (hS : HS M) (h3 : y 3 = 0) {l6 l7 l10 : Int32}
    (h255 : ∀ M' : Mem, StB (M' 0) P E o (tradeL P E (pn P) 0 y) → FL_trades_255 (nI (pn P)) l6 l7 l10 (nI (tradeL P E (pn P) 0 y 3)) 1 M' = FL_trades_304 (nI (pn P)) (nI (tradeL P E (pn P) 0 y 3)) M') : ∃ M' : Mem, FL_trades_179 (nI (pn P)) (nI (sumN (fun t => y (52 + t)) (pn P))).toInt64 (nI (sumN (fun t => y (76 + t)) (pn P))) (nI (sumN (fun u => E u - tradeL P E (pn P) 0 y (52 + u)) (pn P))) l6 l7 l10 1 M = some (1, M') ∧ StB (M' 0) P E o (tradeL P E (pn P) 0 y) ∧ HS M' := by
  have hn := h.n
  obtain ⟨M1, t1, t2, t3, -⟩ := l_trade h hS
  obtain ⟨v1, v2, v3, v4, -⟩ := trade_ti hn (E := E) h.2 (fun c hc => by omega)
  obtain ⟨M2, i1, i2, i3⟩ := ctr_loop v2 _ 0 fu M1 rfl (Nat.zero_le _) (fu_gt (by have := v1.2.2.1; omega)) t2 t3
  refine ⟨M2, ?_, i2, i3⟩
  have e1 := n1 t2
  have e2 := l_dues t2
  have e3 := n6 t2
  have e4 := n4 t2
  have e5 := h255 M1 t2
  rw [h3, Nat.sub_zero] at t1
  rw [v3] at e2
  rw [v4] at e3
  unfold FL_trades_179 FL_trades_191 FL_trades_196
  rw [if_neg (show ¬ (1 : Int32) = 0 by decide), t1, c2_eq, if_neg (show ¬ (1 : Int32) = 0 by decide), e1, c1_eq, if_pos rfl, e2, c1_eq, if_pos ((lg_cmp_eq _ _).mpr rfl), e3, c1_eq, if_pos rfl, e4, c1_eq, if_pos rfl, e5]
  unfold FL_trades_304 FL_trades_309
  exact i1
theorem tradeL_next {P : PD} {E y : Nat → Nat} {S : Int32} (h : ¬ lat (pn P) E y S = 99) : ∀ k, 1 ≤ k → tradeL P E k S y = tradeL P E (k - 1) (S ||| ((1 : Int32) <<< (nI (lat (pn P) E y S) &&& 31))) (buyL (pn P) E (lkv P (lat (pn P) E y S)) (lat (pn P) E y S) (pn P) ((1 : Int32) <<< (nI (lat (pn P) E y S) &&& 31)) y) := by
  intro k hk
  obtain ⟨m, rfl⟩ : ∃ m, k = m + 1 := ⟨k - 1, by omega⟩
  rw [tradeL, if_neg h]; rfl
theorem tradeL_none {P : PD} {E y : Nat → Nat} {S : Int32} (h : lat (pn P) E y S = 99) : ∀ k, tradeL P E k S y = y := by
  intro k
  cases k with
  | zero => rfl
  | succ k => rw [tradeL, if_pos h]
/-- the first buyer's part of a trade -/
theorem first_part {P : PD} (hn : pn P ≤ 24) {E y : Nat → Nat} {f : Nat} (hf : f < pn P) (hlat : lat (pn P) E y 0 = f) (h3 : y 3 = 0) (hl : y (52 + f) ≤ E f) : bL P E f y (52 + f) ≤ E f ∧ bL P E f y (52 + f) = y (52 + f) + boC (bL P E f y) f ∧ tradeL P E (pn P) 0 y (52 + f) = bL P E f y (52 + f) ∧ boC (tradeL P E (pn P) 0 y) f = boC (bL P E f y) f := by
  have hb0 : boC y f = 0 := by unfold boC; rw [h3]; rfl
  have p1 := buyL_ind hn (E := E) (L := lkv P f) (b := f) (Φ := fun y' => y' (52 + f) ≤ E f ∧ y' (52 + f) = y (52 + f) + boC y' f) (fun y' j hj hjf _ _ h => f1_step hn hf y' j hj hjf h) (pn P) ((1 : Int32) <<< (nI f &&& 31)) y (by rw [bt_one (by omega) (by omega), decide_eq_true rfl]) ⟨hl, by rw [hb0]; rfl⟩
  have hne : ¬ lat (pn P) E y 0 = 99 := by omega
  have e := tradeL_next (P := P) hne (pn P) (by omega)
  rw [hlat] at e
  have p2 := tradeL_ind hn (E := E) (Φ := fun y' => y' (52 + f) = bL P E f y (52 + f) ∧ boC y' f = boC (bL P E f y) f) (Q := fun b => b ≠ f) (fun y' j b hb hbf hj hjb _ _ h => f2_step hn hf p1.1 y' j b hb hbf hj hjb h) (pn P - 1) (0 ||| ((1 : Int32) <<< (nI f &&& 31))) (bL P E f y) (fun b hb hb2 e => by
    rw [bt_add (by omega) (by omega), e, decide_eq_true rfl, Bool.or_true] at hb2
    cases hb2) ⟨rfl, rfl⟩
  rw [e]
  exact ⟨p1.1, p1.2, p2.1, p2.2⟩
theorem l_trades {M : Mem} {P : PD} {E o y : Nat → Nat} (h : StB (M 0) P E o y) (hS : HS M) (h9 : pn P ≤ 9) (h3 : y 3 = 0) (hmo : sumN (fun u => y (76 + u)) (pn P) ≤ 4000) : ∃ M' : Mem, FL_trades M (nI (pn P)) = some (1, M') ∧ StB (M' 0) P E o (tradeL P E (pn P) 0 y) ∧ HS M' := by
  have hn := h.n
  obtain ⟨M1, a1, a2⟩ := l_behind h
  have h1 : StB (M1 0) P E o y := by rw [a1 0 (by decide)]; exact h
  have hS1 : HS M1 := hs_cg hS (a1 11 (by decide))
  obtain ⟨b1, b2⟩ := l_latest h1
  unfold FL_trades
  rw [l_dues h, c1_eq, n6 h, c1_eq, a2, c2_eq, b1, c2_eq]
  rcases b2 with hf | hf
  · obtain ⟨f, hlat⟩ : ∃ f, lat (pn P) E y 0 = f := ⟨_, rfl⟩
    obtain ⟨-, -, s3⟩ := lat_ok (S := 0) (E := E) (y := y) hn (by omega)
    rw [hlat] at hf s3 ⊢
    obtain ⟨eb1, eb2, eb3⟩ := h.Ele hf
    obtain ⟨p1, p2, p3, p4⟩ := first_part hn hf hlat h3 (by omega)
    have mB : y (76 + f) ≤ 4000 := Nat.le_trans (sumN_le (f := fun t => y (76 + t)) hf) hmo
    rw [aI_lt (by omega)]
    -- the questions
    obtain ⟨M2, w1, w2, -⟩ := l_would h1 hf
    have h2 : StB (M2 0) P E o y := by rw [w1 0 (by decide)]; exact h1
    obtain ⟨M3, x1, -, x2⟩ := l_would h2 hf
    have h3' : StB (M3 0) P E o y := by rw [x1 0 (by decide)]; exact h2
    obtain ⟨M4, z1, z2⟩ := l_least h3' hf (by omega)
    have h4 : StB (M4 0) P E o y := by rw [z1 0 (by decide)]; exact h3'
    have hS4 : HS M4 := hs_cg hS1 (by rw [z1 11 (by decide), x1 11 (by decide), w1 11 (by decide)])
    -- both buyers
    obtain ⟨yA, hyA⟩ : ∃ yA, u1 y (76 + f) 100000000 = yA := ⟨_, rfl⟩
    have eA1 : yA (76 + f) = 100000000 := by rw [← hyA]; (repeat (first | rw [u1_ne (by omega)] | rw [u1_at]))
    have eA2 : yA (52 + f) = y (52 + f) := by rw [← hyA]; (repeat (first | rw [u1_ne (by omega)] | rw [u1_at]))
    have eA3 : yA 3 = 0 := by rw [← hyA]; (repeat (first | rw [u1_ne (by omega)] | rw [u1_at])); exact h3
    rw [hyA] at z2
    have hS0 : bt ((1 : Int32) <<< (nI f &&& 31)) f = true := by rw [bt_one (by omega) (by omega), decide_eq_true rfl]
    have hRR : RR (pn P) ((1 : Int32) <<< (nI f &&& 31)) yA y := by
      rw [← hyA]
      refine ⟨by (repeat (first | rw [u1_ne (by omega)] | rw [u1_at])), fun t ht c => ⟨?_, ?_, ?_⟩⟩ <;> (repeat (first | rw [u1_ne (by omega)] | rw [u1_at]))
    have hRich : Rich (pn P) f (pn P) yA := ⟨by rw [eA1]; omega, by rw [eA3]; omega, fun t ht => by
      have g := h.2.2.2.2.2.2.1 t ht
      rw [← hyA]
      (repeat (first | rw [u1_ne (by omega)] | rw [u1_at]))
      exact g⟩
    have la : E f - bL P E f yA (52 + f) ≤ E f - bL P E f y (52 + f) := lock_a hn (E := E) (L := lkv P f) hf (pn P) _ yA y hS0 hRR hRich (by rw [h3]; omega) (by rw [eA2]; exact Nat.le_refl _)
    have lb : E f - bL P E f yA (52 + f) = 0 → (yA (76 + f) - bL P E f yA (76 + f) ≤ y (76 + f) → E f - bL P E f y (52 + f) = 0 ∧ y (76 + f) - bL P E f y (76 + f) = yA (76 + f) - bL P E f yA (76 + f)) ∧ (y (76 + f) < yA (76 + f) - bL P E f yA (76 + f) → 0 < E f - bL P E f y (52 + f)) := fun q => lock_b hn (E := E) (L := lkv P f) hf (pn P) _ yA y hS0 hRR hRich (by rw [h3]; omega) (by rw [eA2]) q
    have mA : bL P E f yA (76 + f) ≤ yA (76 + f) := mon_le hn (E := E) (L := lkv P f) hf (m := pn P) (S := (1 : Int32) <<< (nI f &&& 31)) (y := yA) hS0
    have mR : bL P E f y (76 + f) ≤ y (76 + f) := mon_le hn (E := E) (L := lkv P f) hf (m := pn P) (S := (1 : Int32) <<< (nI f &&& 31)) (y := y) hS0
    obtain ⟨lA, hlA⟩ : ∃ lA, E f - bL P E f yA (52 + f) = lA := ⟨_, rfl⟩
    obtain ⟨mAe, hmAe⟩ : ∃ mAe, bL P E f yA (76 + f) = mAe := ⟨_, rfl⟩
    obtain ⟨mBe, hmBe⟩ : ∃ mBe, bL P E f y (76 + f) = mBe := ⟨_, rfl⟩
    obtain ⟨D1, hD1⟩ : ∃ D1, bL P E f y (52 + f) = D1 := ⟨_, rfl⟩
    obtain ⟨W, hW⟩ : ∃ W, boC (bL P E f y) f = W := ⟨_, rfl⟩
    rw [hlA, hD1] at la
    rw [hlA, hmAe, hmBe, hD1, eA1] at lb
    rw [hmAe, eA1] at mA
    rw [hmBe] at mR
    rw [hD1] at p1 p2 p3 w2
    rw [hW] at p2 p4
    rw [hmBe] at x2
    rw [hlA, hmAe] at z2
    have eW : nI (E f - y (52 + f)) - nI (E f - D1) = nI W := by rw [nI_sub (by omega)]; congr 1; omega
    have eC : nI (y (76 + f)) - nI mBe = nI (y (76 + f) - mBe) := nI_sub mR
    have h255 : ∀ M' : Mem, StB (M' 0) P E o (tradeL P E (pn P) 0 y) → FL_trades_255 (nI (pn P)) (nI f) (nI W) (nI (E f - y (52 + f))) (nI (tradeL P E (pn P) 0 y 3)) 1 M' = FL_trades_304 (nI (pn P)) (nI (tradeL P E (pn P) 0 y 3)) M' := by
      intro M' hM'
      have q12 := o12 hM' hf
      have q12' : FX5_ofTask M' (nI f) (12 : Int32) = some (nI W, M') := q12.trans (congrArg (fun x => some (nI x, M')) p4)
      have q6 := o6 hM' hf
      rw [p3] at q6
      unfold FL_trades_255
      rw [if_neg (show ¬ (1 : Int32) = 0 by decide), if_pos (nI_pos' (by omega)), q12', c2_eq, if_pos rfl, q6, c2_eq, nI_sub (by omega), if_pos (by congr 1; omega)]
    obtain ⟨M5, t1, t2, t3⟩ := trades_end h4 hS4 h3 (l6 := nI f) (l7 := nI W) (l10 := nI (E f - y (52 + f))) h255
    refine ⟨M5, ?_, t2, t3⟩
    unfold FL_trades_43 FL_trades_61 FL_trades_78 FL_trades_97
    rw [if_pos (nI_pos' (by omega)), w2, c2_eq, if_pos (nI_pos' (by omega)), x2, c2_eq, if_pos (nI_pos' (by omega)), z2, c2_eq, if_pos (nI_pos' (by omega)), o6 h4 hf, c2_eq, if_pos (nI_pos' (by omega)), r_money h4 hf, c1_eq, eW, eC]
    unfold FL_trades_114
    by_cases c0 : lA = 0
    · rw [if_pos c0, nI_sub mA, if_neg (m6_ne (by omega)), lt_nI (by omega) (by omega)]
      by_cases c1 : y (76 + f) < 100000000 - mAe
      · have := (lb c0).2 c1
        rw [if_pos c1, le_nI (by omega) (by omega), if_neg (by omega)]
        exact t1
      · obtain ⟨v1, v2⟩ := (lb c0).1 (by omega)
        rw [if_neg c1, if_pos (by congr 1; omega), if_pos (by congr 1)]
        exact t1
    · rw [if_neg c0, if_pos rfl, le_nI (by omega) (by omega), if_neg (by omega)]
      exact t1
  · rw [hf, aI_99, if_neg (show ¬ (0 : Int32) ≤ -6 by decide)]
    have eT := tradeL_none (P := P) hf (pn P)
    obtain ⟨M5, t1, t2, t3⟩ := trades_end h1 hS1 h3 (l6 := -6) (l7 := 0) (l10 := 0) (fun M' hM' => by
      unfold FL_trades_255
      rw [if_neg (show ¬ (1 : Int32) = 0 by decide), if_neg (show ¬ (0 : Int32) ≤ -6 by decide), if_pos (by rw [eT, h3]; rfl)])
    refine ⟨M5, ?_, t2, t3⟩
    unfold FL_trades_43 FL_trades_61 FL_trades_78 FL_trades_97 FL_trades_114
    rw [if_neg (show ¬ (0 : Int32) ≤ -6 by decide), if_neg (show ¬ (0 : Int32) ≤ -6 by decide), if_neg (show ¬ (0 : Int32) ≤ -6 by decide), if_neg (show ¬ (0 : Int32) ≤ -6 by decide), if_neg (show ¬ (0 : Int32) = -6 by decide), if_neg (show ¬ (0 : Int32) < 0 by decide), if_pos rfl, if_pos rfl]
    exact t1
/-! the law's trades2() -/
theorem l_trades2 {M : Mem} {P : PD} {E o y : Nat → Nat} (h : StB (M 0) P E o y) (hS : HS M) : ∃ M' : Mem, FL_trades2 M (nI (pn P)) = some (1, M') := by
  have hn := h.n
  have hk := h.2.2.2.1
  obtain ⟨M1, a1, a2⟩ := l_behind h
  have h1 : StB (M1 0) P E o y := by rw [a1 0 (by decide)]; exact h
  have hS1 : HS M1 := hs_cg hS (a1 11 (by decide))
  obtain ⟨M2, t1, t2, t3, t4⟩ := l_trade h1 hS1
  have m := trade_more hn (E := E) (y := y)
  have hk2 := t2.2.2.2.1
  obtain ⟨M3, k, u1', u2, u3, u4, -⟩ := l_undo t4
  have h3 : StB (M3 0) P E o y := h1.eqb u3
  obtain ⟨M4, b1, b2⟩ := l_behind h3
  refine ⟨M4, ?_⟩
  unfold FL_trades2 FL_trades2_55
  rw [a2, c2_eq, n1 h1, c1_eq, t1, c2_eq, if_neg (nneg (by omega)), n1 t2, c1_eq, nI_add, if_pos (by congr 1; omega), n4 t2, c1_eq, if_pos rfl, u2, c2_eq, if_neg (nneg (by omega)), if_neg (show ¬ (1 : Int32) = 0 by decide), n1 h3, c1_eq, if_pos rfl, b2, c2_eq, if_pos rfl]
