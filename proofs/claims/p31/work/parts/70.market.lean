/-! the market: one purchase, one buyer, a trade, as functions of the numbers y -/
abbrev elig (y : Nat → Nat) (L : Nat → Int32) (S : Int32) (t : Nat) : Prop := bt S t = false ∧ 1 ≤ y (124 + t) ∧ ¬ L t = -6 ∧ ¬ nI (y 2) < L t
abbrev bett (y : Nat → Nat) (L : Nat → Int32) (t u : Nat) : Prop := y (148 + t) < y (148 + u) ∨ (y (148 + t) = y (148 + u) ∧ L t < L u)
def selS (y : Nat → Nat) (L : Nat → Int32) (S : Int32) (t best : Nat) : Nat := if elig y L S t ∧ (best = 99 ∨ bett y L t best) then t else best
def sel (n : Nat) (y : Nat → Nat) (L : Nat → Int32) (S : Int32) : Nat := foldN (selS y L S) n 99
theorem p_bett {B : Blk} {P : PD} {E o y : Nat → Nat} (h : StB B P E o y) {L : Nat → Int32} (hL : ∀ j, j < pn P → B 11 j = L j) {t u : Nat} (ht : t < pn P) (hu : u < pn P) : FX2_isBetterSeller B (nI t) (nI u) = some (if bett y L t u then 1 else 0) := by
  have hn := h.n
  have a1 := h.2.2.2.2.2.2.1 t ht
  have a2 := h.2.2.2.2.2.2.1 u hu
  unfold FX2_isBetterSeller
  rw [ld_nI (by omega) (by decide), ld_nI (by omega) (by decide), ld_nI (by omega) (by decide), ld_nI (by omega) (by decide), ld_nI (by omega) (by decide), ld_nI (by omega) (by decide), (h.by.2.2.2.1 t ht).2.2.2, (h.by.2.2.2.1 u hu).2.2.2, hL t ht, hL u hu, eq_nI (by omega) (by omega), le_nI (by omega) (by omega)]
  by_cases e : y (148 + t) = y (148 + u)
  · rw [if_pos e]
    by_cases c : L u ≤ L t
    · rw [if_pos c, if_neg (fun q => q.elim (fun w => by omega) (fun w => absurd c (Int32.not_le.mpr w.2)))]
    · rw [if_neg c, if_pos (Or.inr ⟨e, Int32.not_le.mp c⟩)]
  · rw [if_neg e]
    by_cases c : y (148 + u) ≤ y (148 + t)
    · rw [if_pos c, if_neg (fun q => q.elim (fun w => by omega) (fun w => e w.1))]
    · rw [if_neg c, if_pos (Or.inl (by omega))]
theorem p_sel {B : Blk} {P : PD} {E o y : Nat → Nat} (h : StB B P E o y) {L : Nat → Int32} (hL : ∀ j, j < pn P → B 11 j = L j) (S : Int32) : FX2_bestSellerExcept B S = some (aI (sel (pn P) y L S)) ∧ (sel (pn P) y L S < pn P ∨ sel (pn P) y L S = 99) := by
  have hn := h.n
  unfold FX2_bestSellerExcept sel
  refine loop_inv (fun fuel t s => FX2_bestSellerExcept_5 B fuel S (aI s) (nI t)) (pn P) (fun _ s => s < pn P ∨ s = 99) (selS y L S) (fun s => some (aI s)) ?_ ?_ ?_ (fu_gt (show pn P < 100000 by omega)) (s := 99) (Or.inr rfl)
  · intro k s _
    show FX2_bestSellerExcept_5s B _ _ _ _ = _
    unfold FX2_bestSellerExcept_5s
    rw [h.bp.1, le_nI (by omega) (by omega), if_pos (Nat.le_refl _)]
  · intro k t s ht hs
    have a1 := h.2.2.2.2.2.2.1 t ht
    show FX2_bestSellerExcept_5s B (FX2_bestSellerExcept_5 B k) _ _ _ = _
    unfold FX2_bestSellerExcept_5s FX2_isInReach FX2_bestSellerExcept_47 selS
    rw [h.bp.1, le_nI (by omega) (by omega), if_neg (by omega), bt_ite (by omega), ld_nI (by omega) (by decide), ld_nI (by omega) (by decide), (h.by.2.2.2.1 t ht).2.2.1, hL t ht, h.by.2.1, lt1_eq, lt1_eq, nI_1, if_nIle0 (by omega)]
    by_cases q0 : bt S t = true
    · rw [if_pos q0, if_neg (fun q => by rw [q.1.1] at q0; cases q0)]
    · have q0' : bt S t = false := by simpa using q0
      rw [if_neg q0]
      by_cases q1 : y (124 + t) = 0
      · rw [if_pos q1, c1_eq, if_pos rfl, if_neg (fun q => by have := q.1.2.1; omega)]
      · rw [if_neg q1]
        by_cases q2 : L t = -6
        · rw [if_pos q2, c1_eq, if_pos rfl, if_neg (fun q => q.1.2.2.1 q2)]
        · rw [if_neg q2]
          by_cases q3 : nI (y 2) < L t
          · rw [if_pos q3, c1_eq, if_pos rfl, if_neg (fun q => q.1.2.2.2 q3)]
          · rw [if_neg q3, c1_eq, if_neg (show ¬ (1 : Int32) = 0 by decide)]
            have el : elig y L S t := ⟨q0', by omega, q2, q3⟩
            rcases hs with hs | hs
            · rw [aI_lt (a := s) (by omega), if_neg (m6_ne (by omega)), p_bett h hL ht hs, c1_eq]
              by_cases w : bett y L t s
              · rw [if_pos w, if_neg (show ¬ (1 : Int32) = 0 by decide), if_pos ⟨el, Or.inr w⟩, aI_lt (by omega)]
              · rw [if_neg w, if_pos rfl, if_neg (fun q => q.2.elim (fun e => by omega) w), aI_lt (by omega)]
            · subst hs
              rw [aI_99, if_pos rfl, if_pos ⟨el, Or.inl rfl⟩, aI_lt (by omega)]
  · intro t s ht hs
    unfold selS
    split
    · exact Or.inl ht
    · exact hs
theorem sel_spec (n : Nat) (y : Nat → Nat) (L : Nat → Int32) (S : Int32) : (∀ m, m ≤ n → m ≤ 99 → (foldN (selS y L S) m 99 = 99 ∧ ∀ t, t < m → ¬ elig y L S t) ∨ (foldN (selS y L S) m 99 < m ∧ elig y L S (foldN (selS y L S) m 99) ∧ ∀ t, t < m → elig y L S t → y (148 + foldN (selS y L S) m 99) ≤ y (148 + t))) := by
  intro m
  induction m with
  | zero => exact fun _ _ => Or.inl ⟨rfl, fun t h => by omega⟩
  | succ m ih =>
    intro hm h99
    have e : foldN (selS y L S) (m + 1) 99 = selS y L S m (foldN (selS y L S) m 99) := rfl
    obtain ⟨g, hg⟩ : ∃ g, foldN (selS y L S) m 99 = g := ⟨_, rfl⟩
    have i := ih (by omega) (by omega)
    rw [hg] at i e
    rw [e]
    unfold selS
    by_cases c : elig y L S m ∧ (g = 99 ∨ bett y L m g)
    · rw [if_pos c]
      refine Or.inr ⟨by omega, c.1, fun t ht he => ?_⟩
      by_cases w : t = m
      · subst w; exact Nat.le_refl _
      · rcases i with ⟨i1, i2⟩ | ⟨i1, i2, i3⟩
        · exact absurd he (i2 t (by omega))
        · have := i3 t (by omega) he
          rcases c.2 with q | q | q
          · omega
          · omega
          · omega
    · rw [if_neg c]
      rcases i with ⟨i1, i2⟩ | ⟨i1, i2, i3⟩
      · refine Or.inl ⟨i1, fun t ht he => ?_⟩
        by_cases w : t = m
        · subst w; exact c ⟨he, Or.inl i1⟩
        · exact i2 t (by omega) he
      · refine Or.inr ⟨by omega, i2, fun t ht he => ?_⟩
        by_cases w : t = m
        · subst w
          rcases Nat.lt_or_ge (y (148 + t)) (y (148 + g)) with q | q
          · exact absurd ⟨he, Or.inr (Or.inl q)⟩ c
          · exact q
        · exact i3 t (by omega) he
theorem sel_ok {n : Nat} (hn : n ≤ 24) {y : Nat → Nat} {L : Nat → Int32} {S : Int32} (h : ¬ sel n y L S = 99) : sel n y L S < n ∧ elig y L S (sel n y L S) ∧ ∀ t, t < n → elig y L S t → y (148 + sel n y L S) ≤ y (148 + t) := by
  rcases sel_spec n y L S n (Nat.le_refl _) (by omega) with ⟨a, -⟩ | a
  · exact absurd a h
  · exact a
def hrsW (E y : Nat → Nat) (j b : Nat) : Nat := min (min (y (52 + j) - E j) (y (124 + j))) (E b - y (52 + b))
def hrs (E y : Nat → Nat) (j b : Nat) : Nat := if y (148 + j) = 0 then hrsW E y j b else min (y (76 + b) / y (148 + j)) (hrsW E y j b)
theorem hrs_le (E y : Nat → Nat) (j b : Nat) : hrs E y j b ≤ y (52 + j) - E j ∧ hrs E y j b ≤ y (124 + j) ∧ hrs E y j b ≤ E b - y (52 + b) ∧ hrs E y j b * y (148 + j) ≤ y (76 + b) := by
  have w1 : hrsW E y j b ≤ y (52 + j) - E j := by unfold hrsW; omega
  have w2 : hrsW E y j b ≤ y (124 + j) := by unfold hrsW; omega
  have w3 : hrsW E y j b ≤ E b - y (52 + b) := by unfold hrsW; omega
  unfold hrs
  by_cases c : y (148 + j) = 0
  · rw [if_pos c, c]
    exact ⟨w1, w2, w3, by omega⟩
  · rw [if_neg c]
    have m1 := Nat.min_le_left (y (76 + b) / y (148 + j)) (hrsW E y j b)
    have m2 := Nat.min_le_right (y (76 + b) / y (148 + j)) (hrsW E y j b)
    refine ⟨by omega, by omega, by omega, ?_⟩
    exact Nat.le_trans (Nat.mul_le_mul_right _ m1) (Nat.div_mul_le_self _ _)
def buyY (y : Nat → Nat) (j b x : Nat) : Nat → Nat := u1 (u1 (u1 (u1 (u1 (u1 (u1 (u1 (u1 (u1 (u1 y 3 (y 3 + 1)) (196 + y 3) j) (236 + y 3) b) (276 + y 3) x) (316 + y 3) (y (148 + j))) (52 + j) (y (52 + j) - x)) (52 + b) (y (52 + b) + x)) (76 + b) (y (76 + b) - x * y (148 + j))) (76 + j) (y (76 + j) + x * y (148 + j))) (124 + j) (y (124 + j) - x)) (148 + j) (if y (124 + j) - x = 0 then 0 else y (148 + j))
def stepY (E y : Nat → Nat) (j b : Nat) : Nat → Nat := if hrs E y j b = 0 ∨ 40 ≤ y 3 then y else buyY y j b (hrs E y j b)
theorem sum2 {f g : Nat → Nat} {n j b : Nat} (hj : j < n) (hb : b < n) (hjb : j ≠ b) (h : ∀ t, t < n → t ≠ j → t ≠ b → g t = f t) (h2 : g j + g b = f j + f b) : sumN g n = sumN f n := by
  have e1 := sumN_up (f := f) (g := u1 f j (g j)) hj (fun t _ c => u1_ne c)
  have e2 := sumN_up (f := u1 f j (g j)) (g := g) hb (fun t ht c => by
    by_cases w : t = j
    · subst w; rw [u1_at]
    · rw [u1_ne w]; exact h t ht w c)
  rw [u1_at] at e1
  rw [u1_ne (Ne.symm hjb)] at e2
  omega
/-- what a purchase does to the numbers -/
theorem buyY_at {y : Nat → Nat} {j b x : Nat} (hj : j < 24) (hb : b < 24) (hjb : j ≠ b) (hk : y 3 < 40) :
    buyY y j b x 1 = y 1 ∧ buyY y j b x 2 = y 2 ∧ buyY y j b x 3 = y 3 + 1 ∧ buyY y j b x (52 + j) = y (52 + j) - x ∧ buyY y j b x (52 + b) = y (52 + b) + x ∧ buyY y j b x (76 + b) = y (76 + b) - x * y (148 + j) ∧ buyY y j b x (76 + j) = y (76 + j) + x * y (148 + j) ∧ buyY y j b x (124 + j) = y (124 + j) - x ∧ buyY y j b x (148 + j) = (if y (124 + j) - x = 0 then 0 else y (148 + j)) ∧
    (∀ t, t < 24 → t ≠ j → buyY y j b x (124 + t) = y (124 + t) ∧ buyY y j b x (148 + t) = y (148 + t)) ∧ (∀ t, t < 24 → t ≠ j → t ≠ b → buyY y j b x (52 + t) = y (52 + t) ∧ buyY y j b x (76 + t) = y (76 + t)) ∧
    (buyY y j b x (196 + y 3) = j ∧ buyY y j b x (236 + y 3) = b ∧ buyY y j b x (276 + y 3) = x ∧ buyY y j b x (316 + y 3) = y (148 + j)) ∧ (∀ c, c < y 3 → buyY y j b x (196 + c) = y (196 + c) ∧ buyY y j b x (236 + c) = y (236 + c) ∧ buyY y j b x (276 + c) = y (276 + c) ∧ buyY y j b x (316 + c) = y (316 + c)) := by
  unfold buyY
  refine ⟨?_, ?_, ?_, ?_, ?_, ?_, ?_, ?_, ?_, fun t ht c => ⟨?_, ?_⟩, fun t ht c1 c2 => ⟨?_, ?_⟩, ⟨?_, ?_, ?_, ?_⟩, fun c hc => ⟨?_, ?_, ?_, ?_⟩⟩ <;> (repeat (first | rw [u1_ne (by omega)] | rw [u1_at]))
theorem yb_buy {n : Nat} {E y : Nat → Nat} {j b x : Nat} (hn : n ≤ 24) (h : YB n y) (hj : j < n) (hb : b < n) (hjb : j ≠ b) (hk : y 3 < 40) (hx1 : x ≤ y (52 + j)) (hx2 : x ≤ y (124 + j)) (hx3 : x * y (148 + j) ≤ y (76 + b)) : YB n (buyY y j b x) ∧ sumN (fun t => buyY y j b x (52 + t)) n = sumN (fun t => y (52 + t)) n ∧ sumN (fun t => buyY y j b x (76 + t)) n = sumN (fun t => y (76 + t)) n := by
  obtain ⟨g1, g2, g3, g4, g5, g6, g7⟩ := h
  obtain ⟨a1, a2, a3, a4, a5, a6, a7, a8, a9, a10, a11, ⟨a12, a13, a14, a15⟩, a16⟩ := buyY_at (y := y) (x := x) (show j < 24 by omega) (show b < 24 by omega) hjb hk
  have s1 : sumN (fun t => buyY y j b x (52 + t)) n = sumN (fun t => y (52 + t)) n := sum2 hj hb hjb (fun t ht c1 c2 => (a11 t (by omega) c1 c2).1) (by show buyY y j b x (52 + j) + buyY y j b x (52 + b) = y (52 + j) + y (52 + b); rw [a4, a5]; omega)
  have s2 : sumN (fun t => buyY y j b x (76 + t)) n = sumN (fun t => y (76 + t)) n := sum2 hj hb hjb (fun t ht c1 c2 => (a11 t (by omega) c1 c2).2) (by show buyY y j b x (76 + j) + buyY y j b x (76 + b) = y (76 + j) + y (76 + b); rw [a6, a7]; omega)
  refine ⟨⟨by rw [a1]; exact g1, by rw [a2]; exact g2, by rw [a3]; omega, by rw [s1]; exact g4, by rw [s2]; exact g5, fun t ht => ?_, fun c hc => ?_⟩, s1, s2⟩
  · have w := g6 t ht
    by_cases c : t = j
    · subst c
      rw [a8, a9]
      exact ⟨by omega, by split <;> omega⟩
    · rw [(a10 t (by omega) c).1, (a10 t (by omega) c).2]
      exact w
  · rw [a3] at hc
    rcases Nat.lt_or_ge c (y 3) with w | w
    · rw [(a16 c w).1, (a16 c w).2.1, (a16 c w).2.2.1, (a16 c w).2.2.2]
      exact g7 c w
    · have e : c = y 3 := by omega
      subst e
      rw [a12, a13, a14, a15]
      have := g6 j hj
      exact ⟨hj, hb, by omega, by omega⟩
set_option maxRecDepth 100000 in
theorem b_buyFrom {B : Blk} {P : PD} {E o y : Nat → Nat} (h : StB B P E o y) {j b : Nat} (hj : j < pn P) (hb : b < pn P) (hjb : j ≠ b) : ∃ B' : Blk, FX2_buyFrom B (nI j) (nI b) = some B' ∧ StB B' P E o (stepY E y j b) ∧ B' 11 = B 11 := by
  have hn := h.n
  have hY := h.2
  obtain ⟨g1, g2, g3, g4, g5, g6, g7⟩ := hY
  obtain ⟨b1, b2, b3, b4, b5⟩ := h.by
  have hd := h.DU
  obtain ⟨j1, j2, j3, j4⟩ := b4 j hj
  obtain ⟨c1', c2', c3', c4'⟩ := b4 b hb
  obtain ⟨ej1, ej2, ej3⟩ := h.Ele hj
  obtain ⟨eb1, eb2, eb3⟩ := h.Ele hb
  have oj := g6 j hj
  have mb : y (76 + b) ≤ 200000000 := Nat.le_trans (sumN_le (f := fun t => y (76 + t)) hb) g5
  have mj : y (76 + j) ≤ 200000000 := Nat.le_trans (sumN_le (f := fun t => y (76 + t)) hj) g5
  obtain ⟨l1, l2, l3, l4⟩ := hrs_le E y j b
  have sp : FX2_spareOf B (nI j) = some (nI (y (52 + j) - E j)) := p_spareOf h.1 hd hj
  have lt : FX2_lateOf B (nI b) = some (nI (E b - y (52 + b))) := p_lateOf h.1 hd hb
  have pH : FX2_buyFrom B (nI j) (nI b) = FX2_buyFrom_50 (nI j) (nI b) (nI (y (148 + j))) (nI (hrs E y j b)) B := by
    unfold FX2_buyFrom hrs hrsW
    rw [ld_nI (by omega) (by decide), j4, lt, c1_eq, ld_nI (by omega) (by decide), j3, sp, c1_eq, lt1_eq, minI (by omega) (by omega), lt1_eq, minI (by omega) (by omega), if_nIle0 (by omega)]
    by_cases c : y (148 + j) = 0
    · rw [if_pos c, if_pos c]
    · have hdv : y (76 + b) / y (148 + j) ≤ y (76 + b) := Nat.div_le_self _ _
      rw [if_neg c, if_neg c, ld_nI (by omega) (by decide), c2', nz_eq (fun q => c ((nI_eq (by omega) (by decide)).mp (by rw [q]; rfl))), lt1_eq, pk_div (by omega) (by omega) (by omega), minI (by omega) (by omega)]
  rw [pH]
  unfold FX2_buyFrom_50 stepY
  rw [if_nIle0 (by omega)]
  by_cases c0 : hrs E y j b = 0
  · rw [if_pos c0, if_pos (Or.inl c0)]
    exact ⟨B, rfl, h, rfl⟩
  · rw [if_neg c0]
    by_cases c40 : 40 ≤ y 3
    · rw [if_pos (Or.inr c40)]
      refine ⟨B, ?_, h, rfl⟩
      have app : ∀ a b c d, FX0_append B a b c d = some (0, B) := fun a b c d => by
        unfold FX0_append
        rw [b3, show (40 : Int32) = nI 40 from rfl, lt_nI (by omega) (by decide), if_neg (by omega)]
      rw [app, c2_eq, if_pos rfl]
    · rw [if_neg (fun q => q.elim c0 c40)]
      obtain ⟨x, hx⟩ : ∃ x, hrs E y j b = x := ⟨_, rfl⟩
      rw [hx] at l1 l2 l3 l4 c0 ⊢
      have hk : y 3 < 40 := by omega
      obtain ⟨yb, -, -⟩ := yb_buy (E := E) hn h.2 hj hb hjb hk (x := x) (by omega) l2 l4
      obtain ⟨a1, a2, a3, a4, a5, a6, a7, a8, a9, a10, a11, ⟨a12, a13, a14, a15⟩, a16⟩ := buyY_at (y := y) (x := x) (show j < 24 by omega) (show b < 24 by omega) hjb hk
      obtain ⟨B1, hB1⟩ : ∃ B1, bs (bs (bs (bs (bs B 12 (y 3) (nI j)) 13 (y 3) (nI b)) 14 (y 3) (nI x)) 15 (y 3) (nI (y (148 + j)))) 2 0 (nI (y 3 + 1)) = B1 := ⟨_, rfl⟩
      obtain ⟨B2, hB2⟩ : ∃ B2, bs (bs B1 16 j (nI (y (52 + j) - x))) 16 b (nI (y (52 + b) + x)) = B2 := ⟨_, rfl⟩
      obtain ⟨B3, hB3⟩ : ∃ B3, bs B2 17 b (nI (y (76 + b) - x * y (148 + j))) = B3 := ⟨_, rfl⟩
      obtain ⟨B4, hB4⟩ : ∃ B4, bs B3 17 j (nI (y (76 + j) + x * y (148 + j))) = B4 := ⟨_, rfl⟩
      obtain ⟨B5, hB5⟩ : ∃ B5, bs (bs B4 18 j (nI (y (124 + j) - x))) 19 j (nI (if y (124 + j) - x = 0 then 0 else y (148 + j))) = B5 := ⟨_, rfl⟩
      have app : FX0_append B (nI j) (nI b) (nI x) (nI (y (148 + j))) = some (1, B1) := by
        unfold FX0_append
        rw [b3, show (40 : Int32) = nI 40 from rfl, lt_nI (by omega) (by decide), if_pos hk, stb_nI (by omega) (by decide), bs_o (o' := 2) (by omega), b3, stb_nI (by omega) (by decide), bs_o (o' := 2) (by omega), bs_o (o' := 2) (by omega), b3, stb_nI (by omega) (by decide), bs_o (o' := 2) (by omega), bs_o (o' := 2) (by omega), bs_o (o' := 2) (by omega), b3, stb_nI (by omega) (by decide), lt1_eq, bs_o (o' := 2) (by omega), bs_o (o' := 2) (by omega), bs_o (o' := 2) (by omega), bs_o (o' := 2) (by omega), b3, k1, nI_add, hB1]
      have e16j : B1 16 j = nI (y (52 + j)) := by rw [← hB1]; (repeat (first | rw [bs_o (by omega)] | rw [bs_kk] | rw [bs_kn (by omega)])); exact j1
      have e16b : bs B1 16 j (nI (y (52 + j) - x)) 16 b = nI (y (52 + b)) := by rw [← hB1]; (repeat (first | rw [bs_o (by omega)] | rw [bs_kk] | rw [bs_kn (by omega)])); exact c1'
      have e17b : B2 17 b = nI (y (76 + b)) := by rw [← hB2, ← hB1]; (repeat (first | rw [bs_o (by omega)] | rw [bs_kk] | rw [bs_kn (by omega)])); exact c2'
      have e17j : B3 17 j = nI (y (76 + j)) := by rw [← hB3, ← hB2, ← hB1]; (repeat (first | rw [bs_o (by omega)] | rw [bs_kk] | rw [bs_kn (by omega)])); exact j2
      have e18 : B4 18 j = nI (y (124 + j)) := by rw [← hB4, ← hB3, ← hB2, ← hB1]; (repeat (first | rw [bs_o (by omega)] | rw [bs_kk] | rw [bs_kn (by omega)])); exact j3
      refine ⟨B5, ?_, ?_, ?_⟩
      · rw [app, c2_eq, if_neg (show ¬ (1 : Int32) = 0 by decide), ld_nI (by omega) (by decide), e16j, nI_sub (by omega), stb_nI (by omega) (by decide), ld_nI (by omega) (by decide), e16b, nI_add, stb_nI (by omega) (by decide), hB2, ld_nI (by omega) (by decide), e17b, pk_mul, nI_sub l4, stb_nI (by omega) (by decide), hB3, ld_nI (by omega) (by decide), e17j, nI_add, stb_nI (by omega) (by decide), hB4, ld_nI (by omega) (by decide), e18, nI_sub l2, p_setOffer (by omega) (by omega), c1_eq, hB5]
      · refine h.mk (fun q hq => by rw [← hB5, ← hB4, ← hB3, ← hB2, ← hB1]; (repeat (first | rw [bs_o (by omega)] | rw [bs_kk] | rw [bs_kn (by omega)]))) ⟨?_, ?_, ?_, fun t ht => ⟨?_, ?_, ?_, ?_⟩, fun c hc => ?_⟩ yb
        · rw [← hB5, ← hB4, ← hB3, ← hB2, ← hB1, a1]; (repeat (first | rw [bs_o (by omega)] | rw [bs_kk] | rw [bs_kn (by omega)])); exact b1
        · rw [← hB5, ← hB4, ← hB3, ← hB2, ← hB1, a2]; (repeat (first | rw [bs_o (by omega)] | rw [bs_kk] | rw [bs_kn (by omega)])); exact b2
        · rw [← hB5, ← hB4, ← hB3, ← hB2, ← hB1, a3]; (repeat (first | rw [bs_o (by omega)] | rw [bs_kk] | rw [bs_kn (by omega)]))
        · by_cases c1 : t = b
          · subst c1; rw [← hB5, ← hB4, ← hB3, ← hB2, a5]; (repeat (first | rw [bs_o (by omega)] | rw [bs_kk] | rw [bs_kn (by omega)]))
          · by_cases c2 : t = j
            · subst c2; rw [← hB5, ← hB4, ← hB3, ← hB2, a4]; (repeat (first | rw [bs_o (by omega)] | rw [bs_kk] | rw [bs_kn (by omega)]))
            · rw [← hB5, ← hB4, ← hB3, ← hB2, ← hB1, (a11 t (by omega) c2 c1).1]; (repeat (first | rw [bs_o (by omega)] | rw [bs_kk] | rw [bs_kn (by omega)])); exact (b4 t ht).1
        · by_cases c1 : t = b
          · subst c1; rw [← hB5, ← hB4, ← hB3, a6]; (repeat (first | rw [bs_o (by omega)] | rw [bs_kk] | rw [bs_kn (by omega)]))
          · by_cases c2 : t = j
            · subst c2; rw [← hB5, ← hB4, a7]; (repeat (first | rw [bs_o (by omega)] | rw [bs_kk] | rw [bs_kn (by omega)]))
            · rw [← hB5, ← hB4, ← hB3, ← hB2, ← hB1, (a11 t (by omega) c2 c1).2]; (repeat (first | rw [bs_o (by omega)] | rw [bs_kk] | rw [bs_kn (by omega)])); exact (b4 t ht).2.1
        · by_cases c2 : t = j
          · subst c2; rw [← hB5, a8]; (repeat (first | rw [bs_o (by omega)] | rw [bs_kk] | rw [bs_kn (by omega)]))
          · rw [← hB5, ← hB4, ← hB3, ← hB2, ← hB1, (a10 t (by omega) c2).1]; (repeat (first | rw [bs_o (by omega)] | rw [bs_kk] | rw [bs_kn (by omega)])); exact (b4 t ht).2.2.1
        · by_cases c2 : t = j
          · subst c2; rw [← hB5, a9]; (repeat (first | rw [bs_o (by omega)] | rw [bs_kk] | rw [bs_kn (by omega)]))
          · rw [← hB5, ← hB4, ← hB3, ← hB2, ← hB1, (a10 t (by omega) c2).2]; (repeat (first | rw [bs_o (by omega)] | rw [bs_kk] | rw [bs_kn (by omega)])); exact (b4 t ht).2.2.2
        · rw [a3] at hc
          rcases Nat.lt_or_ge c (y 3) with w | w
          · rw [(a16 c w).1, (a16 c w).2.1, (a16 c w).2.2.1, (a16 c w).2.2.2, ← hB5, ← hB4, ← hB3, ← hB2, ← hB1]
            (repeat (first | rw [bs_o (by omega)] | rw [bs_kk] | rw [bs_kn (by omega)]))
            exact b5 c w
          · have e : c = y 3 := by omega
            subst e
            rw [a12, a13, a14, a15, ← hB5, ← hB4, ← hB3, ← hB2, ← hB1]
            (repeat (first | rw [bs_o (by omega)] | rw [bs_kk] | rw [bs_kn (by omega)]))
            exact ⟨rfl, rfl, rfl, rfl⟩
      · rw [← hB5, ← hB4, ← hB3, ← hB2, ← hB1]; (repeat (first | rw [bs_o (by omega)] | rw [bs_kk] | rw [bs_kn (by omega)]))
