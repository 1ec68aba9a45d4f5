/-! what would be bought, what would be late, and the trade itself, over the memory -/
theorem hs_cg {M M' : Mem} (h : HS M) (e : M' 11 = M 11) : HS M' := by
  obtain ⟨f, k, w1, w2, w3, w4⟩ := h
  exact ⟨f, k, w1, w2, by rw [e]; exact w3, by rw [e]; exact w4⟩
abbrev bL (P : PD) (E : Nat → Nat) (f : Nat) (y : Nat → Nat) : Nat → Nat := buyL (pn P) E (lkv P f) f (pn P) ((1 : Int32) <<< (nI f &&& 31)) y
theorem l_would {M : Mem} {P : PD} {E o y : Nat → Nat} (h : StB (M 0) P E o y) {f : Nat} (hf : f < pn P) : ∃ M' : Mem, (∀ i, i ≠ 1 → M' i = M i) ∧ FX5_wouldBuy M (nI f) 0 = some (nI (E f - y (52 + f)) - nI (E f - bL P E f y (52 + f)), M') ∧ FX5_wouldBuy M (nI f) 1 = some (nI (y (76 + f)) - nI (bL P E f y (76 + f)), M') := by
  have hn := h.n
  obtain ⟨B1, c1', c2'⟩ := p_copyFrom (M 1) (M 0)
  have h1 : StB B1 P E o y := h.eqb c2'
  obtain ⟨B2, b1, b2⟩ := b_buyFor h1 hf
  have m0 : jb (jb M 1 B1) 1 B2 0 = M 0 := by rw [jb_ne (by omega), jb_ne (by omega)]
  have l0 : FX2_lateOf (M 0) (nI f) = some (nI (E f - y (52 + f))) := p_lateOf h.1 h.DU hf
  have l1 : FX2_lateOf B2 (nI f) = some (nI (E f - bL P E f y (52 + f))) := p_lateOf b2.1 b2.DU hf
  refine ⟨jb (jb M 1 B1) 1 B2, fun i hi => by rw [jb_ne hi, jb_ne hi], ?_, ?_⟩
  · unfold FX5_wouldBuy
    rw [p_has_nI h.bp.1 hn hf, c1_eq, if_neg (show ¬ (1 : Int32) = 0 by decide), if_neg (show ¬ (0 : Int32) < 0 by decide), if_pos (show (0 : Int32) ≤ 2 by decide), c1', c1_eq, lt1_eq, jb_at, b1, c1_eq, lt1_eq, if_pos rfl, m0, l0, c1_eq, jb_at, l1, c1_eq]
  · unfold FX5_wouldBuy
    rw [p_has_nI h.bp.1 hn hf, c1_eq, if_neg (show ¬ (1 : Int32) = 0 by decide), if_neg (show ¬ (1 : Int32) < 0 by decide), if_pos (show (1 : Int32) ≤ 2 by decide), c1', c1_eq, lt1_eq, jb_at, b1, c1_eq, lt1_eq, if_neg (show ¬ (1 : Int32) = 0 by decide), if_pos rfl, m0, ld_nI (by omega) (by decide), jb_at, ld_nI (by omega) (by decide), (h.by.2.2.2.1 f hf).2.1, (b2.by.2.2.2.1 f hf).2.1]
theorem l_least {M : Mem} {P : PD} {E o y : Nat → Nat} (h : StB (M 0) P E o y) {f : Nat} (hf : f < pn P) (hmo : sumN (fun u => y (76 + u)) (pn P) ≤ 100000000) : ∃ M' : Mem, (∀ i, i ≠ 1 → M' i = M i) ∧ FX5_leastMoney M (nI f) = some (if E f - bL P E f (u1 y (76 + f) 100000000) (52 + f) = 0 then nI 100000000 - nI (bL P E f (u1 y (76 + f) 100000000) (76 + f)) else -6, M') := by
  have hn := h.n
  obtain ⟨B1, c1', c2'⟩ := p_copyFrom (M 1) (M 0)
  have h1 : StB B1 P E o y := h.eqb c2'
  obtain ⟨q1, q2, q3, q4, q5⟩ := h1.by
  obtain ⟨g1, g2, g3, g4, g5, g6, g7⟩ := h1.2
  have e3 : u1 y (76 + f) 100000000 3 = y 3 := by (repeat (first | rw [u1_ne (by omega)] | rw [u1_at]))
  have h2 : StB (bs B1 17 f (nI 100000000)) P E o (u1 y (76 + f) 100000000) := by
    refine h1.mk (fun q hq => by (repeat (first | rw [bs_o (by omega)] | rw [bs_kk] | rw [bs_kn (by omega)]))) ⟨?_, ?_, ?_, fun u hu => ?_, fun c hc => ?_⟩ ⟨?_, ?_, ?_, ?_, ?_, fun u hu => ?_, fun c hc => ?_⟩
    · (repeat (first | rw [bs_o (by omega)] | rw [bs_kk] | rw [bs_kn (by omega)])); (repeat (first | rw [u1_ne (by omega)] | rw [u1_at])); exact q1
    · (repeat (first | rw [bs_o (by omega)] | rw [bs_kk] | rw [bs_kn (by omega)])); (repeat (first | rw [u1_ne (by omega)] | rw [u1_at])); exact q2
    · (repeat (first | rw [bs_o (by omega)] | rw [bs_kk] | rw [bs_kn (by omega)])); (repeat (first | rw [u1_ne (by omega)] | rw [u1_at])); exact q3
    · obtain ⟨w1, w2, w3, w4⟩ := q4 u hu
      by_cases c : u = f
      · subst c
        (repeat (first | rw [bs_o (by omega)] | rw [bs_kk] | rw [bs_kn (by omega)]))
        (repeat (first | rw [u1_ne (by omega)] | rw [u1_at]))
        exact ⟨w1, rfl, w3, w4⟩
      · (repeat (first | rw [bs_o (by omega)] | rw [bs_kk] | rw [bs_kn (by omega)]))
        (repeat (first | rw [u1_ne (by omega)] | rw [u1_at]))
        exact ⟨w1, w2, w3, w4⟩
    · rw [e3] at hc
      (repeat (first | rw [bs_o (by omega)] | rw [bs_kk] | rw [bs_kn (by omega)])); (repeat (first | rw [u1_ne (by omega)] | rw [u1_at])); exact q5 c hc
    · (repeat (first | rw [u1_ne (by omega)] | rw [u1_at])); exact g1
    · (repeat (first | rw [u1_ne (by omega)] | rw [u1_at])); exact g2
    · rw [e3]; exact g3
    · rw [sumN_congr (g := fun t => y (52 + t)) (fun u hu => by (repeat (first | rw [u1_ne (by omega)] | rw [u1_at])))]; exact g4
    · have := sumN_up (f := fun t => y (76 + t)) (g := fun t => u1 y (76 + f) 100000000 (76 + t)) hf (fun t ht c => by (repeat (first | rw [u1_ne (by omega)] | rw [u1_at])))
      have e : u1 y (76 + f) 100000000 (76 + f) = 100000000 := by (repeat (first | rw [u1_ne (by omega)] | rw [u1_at]))
      rw [e] at this
      omega
    · (repeat (first | rw [u1_ne (by omega)] | rw [u1_at])); exact g6 u hu
    · rw [e3] at hc
      (repeat (first | rw [u1_ne (by omega)] | rw [u1_at])); exact g7 c hc
  obtain ⟨B2, b1, b2⟩ := b_buyFor h2 hf
  obtain ⟨eb1, eb2, eb3⟩ := h.Ele hf
  have l1 : FX2_lateOf B2 (nI f) = some (nI (E f - bL P E f (u1 y (76 + f) 100000000) (52 + f))) := p_lateOf b2.1 b2.DU hf
  refine ⟨jb (jb (jb M 1 B1) 1 (bs B1 17 f (nI 100000000))) 1 B2, fun i hi => by rw [jb_ne hi, jb_ne hi, jb_ne hi], ?_⟩
  unfold FX5_leastMoney
  rw [p_has_nI h.bp.1 hn hf, c1_eq, if_neg (show ¬ (1 : Int32) = 0 by decide), c1', c1_eq, lt1_eq, stm_nI (by omega) (by decide), jb_at, show (100000000 : Int32) = nI 100000000 from rfl, jb_at, b1, c1_eq, lt1_eq, jb_at, l1, c1_eq, if_nIle0 (by omega), ld_nI (by omega) (by decide), (b2.by.2.2.2.1 f hf).2.1]
  split <;> rfl
theorem l_behind {M : Mem} {P : PD} {E o y : Nat → Nat} (h : StB (M 0) P E o y) : ∃ M' : Mem, (∀ i, i ≠ 1 → M' i = M i) ∧ FX5_lateBehind M = some (nI (sumN (fun u => E u - tradeL P E (pn P) 0 y (52 + u)) (pn P)), M') := by
  obtain ⟨B1, c1', c2'⟩ := p_copyFrom (M 1) (M 0)
  have h1 : StB B1 P E o y := h.eqb c2'
  obtain ⟨B2, b1, b2⟩ := b_trade h1
  have l1 : FX2_lateTogether B2 = some (nI (sumN (fun u => E u - tradeL P E (pn P) 0 y (52 + u)) (pn P))) := p_lateTogether b2.1 b2.DU
  refine ⟨jb (jb M 1 B1) 1 B2, fun i hi => by rw [jb_ne hi, jb_ne hi], ?_⟩
  unfold FX5_lateBehind
  rw [c1', c1_eq, lt1_eq, jb_at, b1, c2_eq, lt1_eq, jb_at, l1, c1_eq]
theorem trade_more {P : PD} (hn : pn P ≤ 24) {E y : Nat → Nat} : y 3 ≤ tradeL P E (pn P) 0 y 3 := by
  refine tradeL_ind hn (Φ := fun y' => y 3 ≤ y' 3) (Q := fun _ => True) (fun y' j b hb _ hj hjb _ _ h => ?_) _ _ _ (fun _ _ _ => trivial) (Nat.le_refl _)
  rcases step_cases E y' j b with e | ⟨x, -, -, hk, e⟩
  · rw [e]; exact h
  · rw [e]
    obtain ⟨a1, a2, a3, -⟩ := buyY_at (y := y') (x := x) (show j < 24 by omega) (show b < 24 by omega) hjb hk
    rw [a3]
    omega
theorem l_trade {M : Mem} {P : PD} {E o y : Nat → Nat} (h : StB (M 0) P E o y) (hS : HS M) : ∃ M' : Mem, FX5_trade M = some (nI (tradeL P E (pn P) 0 y 3 - y 3), M') ∧ StB (M' 0) P E o (tradeL P E (pn P) 0 y) ∧ HS M' ∧ Und M' (M 0) := by
  have hn := h.n
  obtain ⟨B', b1, b2⟩ := b_trade h
  have m := trade_more hn (E := E) (y := y)
  have k := b2.2.2.2.1
  rw [nI_sub m] at b1
  obtain ⟨M', m1, m2, -, m3, m4⟩ := ch_step hS (fc := fun B => FX2_tradeAll B) b1
  exact ⟨M', m1, by rw [m2]; exact b2, m3, m4 (nI_pos' (by omega))⟩
theorem l_dues {M : Mem} {P : PD} {E o y : Nat → Nat} (h : StB (M 0) P E o y) : FL_dues M (nI (pn P)) = some (nI (sumN (fun t => y (52 + t)) (pn P))).toInt64 := by
  have hn := h.n
  have bnd : ∀ t, t ≤ pn P → sumN (fun t => y (52 + t)) t ≤ 72000 * t := fun t ht => sum_le (fun u hu => (h.Ele (by omega)).2.2)
  have key : ∀ m t fuel, pn P - t = m → t ≤ pn P → m < fuel → FL_dues_5 M fuel (nI (pn P)) (nI (sumN (fun t => y (52 + t)) t)).toInt64 (nI t) = some (nI (sumN (fun t => y (52 + t)) (pn P))).toInt64 := by
    intro m
    induction m with
    | zero =>
      intro t fuel hm ht hf
      obtain ⟨k, rfl⟩ : ∃ k, fuel = k + 1 := ⟨fuel - 1, by omega⟩
      have e : t = pn P := by omega
      subst e
      show FL_dues_5s M _ _ _ _ = _
      unfold FL_dues_5s
      rw [le_nI (by omega) (by omega), if_pos (Nat.le_refl _)]
    | succ m ih =>
      intro t fuel hm ht hf
      obtain ⟨k, rfl⟩ : ∃ k, fuel = k + 1 := ⟨fuel - 1, by omega⟩
      have ht' : t < pn P := by omega
      have b1 := bnd t (by omega)
      have b2 := bnd (t + 1) (by omega)
      obtain ⟨-, -, b3⟩ := h.Ele ht'
      have e : (nI (sumN (fun t => y (52 + t)) t)).toInt64 + (nI (y (52 + t))).toInt64 = (nI (sumN (fun t => y (52 + t)) (t + 1))).toInt64 := by
        refine Int64.toInt_inj.mp ?_
        have es : sumN (fun t => y (52 + t)) (t + 1) = sumN (fun t => y (52 + t)) t + y (52 + t) := rfl
        rw [Int64.toInt_add, l_nI (by omega), l_nI (by omega), l_nI (by omega), es]
        exact Int.bmod_eq_of_le (by omega) (by omega)
      show FL_dues_5s M (FL_dues_5 M k) _ _ _ = _
      unfold FL_dues_5s
      rw [le_nI (by omega) (by omega), if_neg (by omega), r_due h ht', c1_eq, lt1_eq, lt1_eq, nI_1, e]
      exact ih (t + 1) k (by omega) (by omega) (by omega)
  unfold FL_dues
  exact key (pn P) 0 fu (by omega) (by omega) (fu_gt (by omega))
theorem l_latest {M : Mem} {P : PD} {E o y : Nat → Nat} (h : StB (M 0) P E o y) : FL_latest M (nI (pn P)) = some (aI (lat (pn P) E y 0), M) ∧ (lat (pn P) E y 0 < pn P ∨ lat (pn P) E y 0 = 99) := by
  have hn := h.n
  unfold FL_latest lat
  refine loop_inv (fun fuel t s => FL_latest_5 fuel (nI (pn P)) (aI s) (nI t) M) (pn P) (fun _ s => s < pn P ∨ s = 99) (latS E y 0) (fun s => some (aI s, M)) ?_ ?_ ?_ (fu_gt (show pn P < 100000 by omega)) (s := 99) (Or.inr rfl)
  · intro k s _
    show FL_latest_5s _ _ _ _ _ = _
    unfold FL_latest_5s
    rw [le_nI (by omega) (by omega), if_pos (Nat.le_refl _)]
  · intro k t s ht hs
    obtain ⟨e1, e2, e3⟩ := h.Ele ht
    show FL_latest_5s (FL_latest_5 k) _ _ _ _ = _
    have g0 : FL_latest_46 (FL_latest_5 k) (nI (pn P)) (aI s) (nI t) 0 M = FL_latest_5 k (nI (pn P)) (aI s) (nI (t + 1)) M := by
      unfold FL_latest_46
      rw [if_pos rfl, lt1_eq, nI_1]
    have g1 : FL_latest_46 (FL_latest_5 k) (nI (pn P)) (aI s) (nI t) 1 M = FL_latest_5 k (nI (pn P)) (aI t) (nI (t + 1)) M := by
      unfold FL_latest_46
      rw [if_neg (show ¬ (1 : Int32) = 0 by decide), lt1_eq, nI_1, aI_lt (a := t) (by omega)]
    unfold FL_latest_5s FL_latest_45 FL_latest_41 latS
    rw [le_nI (by omega) (by omega), if_neg (by omega), o6 h ht, c2_eq, if_nIle0 (by omega)]
    by_cases w : E t - y (52 + t) = 0
    · rw [if_pos w, g0, if_neg (fun q => by have := q.2; omega)]
    · rw [if_neg w]
      rcases hs with hs | hs
      · obtain ⟨f1, f2, f3⟩ := h.Ele hs
        rw [aI_lt (a := s) (by omega)] at g0 g1 ⊢
        rw [if_neg (nneg (by omega)), o6 h ht, c2_eq, o6 h hs, c2_eq, le_nI (by omega) (by omega), g0, g1, if_neg (show ¬ s = 99 by omega)]
        by_cases v : E t - y (52 + t) ≤ E s - y (52 + s)
        · rw [if_pos v, if_neg (fun q => by have := q.2; omega), aI_lt (by omega)]
        · rw [if_neg v, if_pos ⟨b_0 t, by omega⟩]
      · subst hs
        rw [aI_99] at g0 g1 ⊢
        rw [if_pos (show (-6 : Int32) < 0 by decide), g1, if_pos (show bt 0 t = false ∧ (if 99 = 99 then 0 else E 99 - y (52 + 99)) < E t - y (52 + t) from ⟨b_0 t, by rw [if_pos rfl]; omega⟩)]
  · intro t s ht hs
    unfold latS
    by_cases c : bt 0 t = false ∧ (if s = 99 then 0 else E s - y (52 + s)) < E t - y (52 + t)
    · rw [if_pos c]; exact Or.inl ht
    · rw [if_neg c]; exact hs
