/-! p31, PURE: the market in numbers: P, E, o (plan, ends, order), y (the rest: 1 refund, 2 reach, 3 contracts, 52 due, 76 money, 124 hours, 148 price, 196 sellers, 236 buyers, 276 hours, 316 prices) -/
def zo (P : PD) (y : Nat → Nat) : Nat → Int32 := fun k =>
  if k = 0 then nI (pn P) else if 4 ≤ k ∧ k < 28 then nI (pm P (k - 4)) else if 28 ≤ k ∧ k < 52 then nI (pd P (k - 28)) else if 100 ≤ k ∧ k < 124 then aI (pa P (k - 100)) else if 172 ≤ k ∧ k < 196 then nI (pp P (k - 172)) else nI (y k)
theorem zo_y {P : PD} {y : Nat → Nat} {k : Nat} (h : (1 ≤ k ∧ k ≤ 3) ∨ (52 ≤ k ∧ k < 100) ∨ (124 ≤ k ∧ k < 172) ∨ 196 ≤ k) : zo P y k = nI (y k) := by
  unfold zo
  rw [if_neg (by omega), if_neg (by omega), if_neg (by omega), if_neg (by omega), if_neg (by omega)]
theorem zo_pl (P : PD) (y : Nat → Nat) (hn : pn P ≤ 24) : ZPl (zo P y) P := by
  refine ⟨rfl, fun t ht => ⟨?_, ?_, ?_, ?_⟩⟩
  · unfold zo
    rw [if_neg (by omega), if_pos (by omega), Nat.add_sub_cancel_left]
  · unfold zo
    rw [if_neg (by omega), if_neg (by omega), if_pos (by omega), Nat.add_sub_cancel_left]
  · unfold zo
    rw [if_neg (by omega), if_neg (by omega), if_neg (by omega), if_neg (by omega), if_pos (by omega), Nat.add_sub_cancel_left]
  · unfold zo
    rw [if_neg (by omega), if_neg (by omega), if_neg (by omega), if_pos (by omega), Nat.add_sub_cancel_left]
/-- the numbers keep their ranges -/
def YB (n : Nat) (y : Nat → Nat) : Prop := y 1 ≤ 100 ∧ (1 ≤ y 2 ∧ y 2 ≤ 9) ∧ y 3 ≤ 40 ∧ sumN (fun t => y (52 + t)) n ≤ 3000 * n ∧ sumN (fun t => y (76 + t)) n ≤ 200000000 ∧ (∀ t, t < n → y (124 + t) ≤ 500 ∧ y (148 + t) ≤ 1000) ∧ ∀ c, c < y 3 → y (196 + c) < n ∧ y (236 + c) < n ∧ y (276 + c) ≤ 500 ∧ y (316 + c) ≤ 1000
/-- the class's block B holds the rest y -/
def BY (B : Blk) (n : Nat) (y : Nat → Nat) : Prop := B 0 2 = nI (y 1) ∧ B 0 3 = nI (y 2) ∧ B 2 0 = nI (y 3) ∧ (∀ t, t < n → B 16 t = nI (y (52 + t)) ∧ B 17 t = nI (y (76 + t)) ∧ B 18 t = nI (y (124 + t)) ∧ B 19 t = nI (y (148 + t))) ∧ ∀ c, c < y 3 → B 12 c = nI (y (196 + c)) ∧ B 13 c = nI (y (236 + c)) ∧ B 14 c = nI (y (276 + c)) ∧ B 15 c = nI (y (316 + c))
theorem rest_of {B : Blk} {P : PD} {y : Nat → Nat} (hn : pn P ≤ 24) (hB : BY B (pn P) y) (hY : YB (pn P) y) : Rest B (zo P y) (pn P) := by
  obtain ⟨b1, b2, b3, b4, b5⟩ := hB
  obtain ⟨y1, ⟨y2, y2'⟩, y3, y4, y5, y6, y7⟩ := hY
  refine ⟨⟨by rw [b1, zo_y (by omega)], by rw [b2, zo_y (by omega)], ⟨y 1, y1, zo_y (by omega)⟩, ⟨y 2, y2, y2', zo_y (by omega)⟩⟩, fun t ht => ?_, ⟨fun t => y (52 + t), fun t ht => zo_y (by omega), y4⟩, fun t ht => ⟨_, (y6 t ht).1, zo_y (by omega)⟩, fun t ht => ⟨_, (y6 t ht).2, zo_y (by omega)⟩, y 3, y3, b3, zo_y (by omega), fun c hc => ⟨?_, ⟨_, (y7 c hc).1, zo_y (by omega)⟩, ⟨_, (y7 c hc).2.1, zo_y (by omega)⟩⟩⟩
  · obtain ⟨g1, g2, g3, g4⟩ := b4 t ht
    rw [zo_y (by omega), zo_y (by omega), zo_y (by omega), zo_y (by omega)]
    exact ⟨g1, g2, g3, g4⟩
  · obtain ⟨g1, g2, g3, g4⟩ := b5 c hc
    rw [zo_y (by omega), zo_y (by omega), zo_y (by omega), zo_y (by omega)]
    exact ⟨g1, g2, g3, g4⟩
def StB (B : Blk) (P : PD) (E o y : Nat → Nat) : Prop := RelP B (zo P y) P E o ∧ YB (pn P) y
theorem StB.n {B : Blk} {P : PD} {E o y : Nat → Nat} (h : StB B P E o y) : pn P ≤ 24 := h.1.1.1
theorem StB.pl {B : Blk} {P : PD} {E o y : Nat → Nat} (h : StB B P E o y) : Pln P := h.1.1
theorem StB.bp {B : Blk} {P : PD} {E o y : Nat → Nat} (h : StB B P E o y) : BPl B P := h.1.2.2.1
theorem StB.en {B : Blk} {P : PD} {E o y : Nat → Nat} (h : StB B P E o y) : Ends P (pd P) E := h.1.2.2.2.1
theorem StB.tp {B : Blk} {P : PD} {E o y : Nat → Nat} (h : StB B P E o y) : Topo P o := h.1.2.2.2.2.1
theorem StB.e6 {B : Blk} {P : PD} {E o y : Nat → Nat} (h : StB B P E o y) {t : Nat} (ht : t < pn P) : B 6 t = nI (E t) := h.1.2.2.2.2.2.1 t ht
theorem StB.by {B : Blk} {P : PD} {E o y : Nat → Nat} (h : StB B P E o y) : BY B (pn P) y := by
  have hn := h.n
  obtain ⟨⟨-, -, -, -, -, -, -, ⟨a1, a2, -, -⟩, b, -, -, -, k, k1, k2, k3, k4⟩, hY⟩ := h
  rw [zo_y (by omega)] at k3
  have ek : y 3 = k := (nI_eq (by have := hY.2.2.1; omega) (by omega)).mp k3
  subst ek
  refine ⟨by rw [a1, zo_y (by omega)], by rw [a2, zo_y (by omega)], k2, fun t ht => ?_, fun c hc => ?_⟩
  · obtain ⟨g1, g2, g3, g4⟩ := b t ht
    rw [zo_y (by omega)] at g1 g2 g3 g4
    exact ⟨g1, g2, g3, g4⟩
  · obtain ⟨⟨g1, g2, g3, g4⟩, -⟩ := k4 c hc
    rw [zo_y (by omega)] at g1 g2 g3 g4
    exact ⟨g1, g2, g3, g4⟩
/-- only the market changes -/
theorem StB.mk {B B' : Blk} {P : PD} {E o y y' : Nat → Nat} (h : StB B P E o y) (hb : ∀ q, q = 1 ∨ (3 ≤ q ∧ q ≤ 9) → B' q = B q) (hB : BY B' (pn P) y') (hY : YB (pn P) y') : StB B' P E o y' := by
  have hn := h.n
  refine ⟨RelP_rest h.1 hb (fun k hk => ?_) (rest_of hn hB hY), hY⟩
  unfold zo
  by_cases c0 : k = 0
  · rw [if_pos c0, if_pos c0]
  · by_cases c1 : 4 ≤ k ∧ k < 28
    · rw [if_neg c0, if_neg c0, if_pos c1, if_pos c1]
    · by_cases c2 : 28 ≤ k ∧ k < 52
      · rw [if_neg c0, if_neg c0, if_neg c1, if_neg c1, if_pos c2, if_pos c2]
      · by_cases c3 : 100 ≤ k ∧ k < 124
        · rw [if_neg c0, if_neg c0, if_neg c1, if_neg c1, if_neg c2, if_neg c2, if_pos c3, if_pos c3]
        · have c4 : 172 ≤ k ∧ k < 196 := by omega
          rw [if_neg c0, if_neg c0, if_neg c1, if_neg c1, if_neg c2, if_neg c2, if_neg c3, if_neg c3, if_pos c4, if_pos c4]
/-- the plan changes -/
theorem StB.plan {B B' : Blk} {P' : PD} {E' o' y : Nat → Nat} (hP : Pln P') (hb : BPl B' P') (hE : Ends P' (pd P') E') (ho : Topo P' o') (h6 : ∀ t, t < pn P' → B' 6 t = nI (E' t)) (h7 : ∀ i, i < pn P' → B' 7 i = nI (o' i)) (hB : BY B' (pn P') y) (hY : YB (pn P') y) : StB B' P' E' o' y := ⟨⟨hP, zo_pl _ _ hP.1, hb, hE, ho, h6, h7, rest_of hP.1 hB hY⟩, hY⟩
/-- scratch places don't matter -/
theorem StB.fr {B B' : Blk} {P : PD} {E o y : Nat → Nat} (h : StB B P E o y) (hb : ∀ q, q ≠ 10 → q ≠ 11 → q ≠ 20 → B' q = B q) : StB B' P E o y := by
  refine h.mk (fun q hq => hb q (by omega) (by omega) (by omega)) ?_ h.2
  obtain ⟨b1, b2, b3, b4, b5⟩ := h.by
  unfold BY
  rw [hb 0 (by omega) (by omega) (by omega), hb 2 (by omega) (by omega) (by omega), hb 16 (by omega) (by omega) (by omega), hb 17 (by omega) (by omega) (by omega), hb 18 (by omega) (by omega) (by omega), hb 19 (by omega) (by omega) (by omega), hb 12 (by omega) (by omega) (by omega), hb 13 (by omega) (by omega) (by omega), hb 14 (by omega) (by omega) (by omega), hb 15 (by omega) (by omega) (by omega)]
  exact ⟨b1, b2, b3, b4, b5⟩
theorem StB.eqb {B B' : Blk} {P : PD} {E o y : Nat → Nat} (h : StB B P E o y) (e : EqB B' B) : StB B' P E o y := ⟨h.1.eqb e, h.2⟩
abbrev ydu (y : Nat → Nat) : Nat → Nat := fun t => y (52 + t)
theorem StB.DU {B : Blk} {P : PD} {E o y : Nat → Nat} (h : StB B P E o y) : DU (zo P y) (pn P) (ydu y) := ⟨fun t ht => zo_y (by have := h.n; omega), h.2.2.2.2.1⟩
theorem StB.Ele {B : Blk} {P : PD} {E o y : Nat → Nat} (h : StB B P E o y) {t : Nat} (ht : t < pn P) : pd P t ≤ E t ∧ E t ≤ 2400 ∧ y (52 + t) ≤ 72000 := ⟨by have := h.en t ht; omega, h.1.E_le ht, h.DU.le h.n ht⟩
/-! reads of one task -/
theorem tl {B : Blk} {P : PD} {E o y : Nat → Nat} (h : StB B P E o y) {t : Nat} (ht : t < pn P) :
    FX2_tellOfTask B (nI t) 0 = some (nI (pm P t), B) ∧ FX2_tellOfTask B (nI t) 1 = some (nI (pd P t), B) ∧ FX2_tellOfTask B (nI t) 2 = some (aI (pa P t), B) ∧ FX2_tellOfTask B (nI t) 3 = some (nI (pp P t), B) ∧
    FX2_tellOfTask B (nI t) 4 = some (nI (E t - pd P t), B) ∧ FX2_tellOfTask B (nI t) 5 = some (nI (E t), B) ∧ FX2_tellOfTask B (nI t) 6 = some (nI (E t - y (52 + t)), B) ∧ FX2_tellOfTask B (nI t) 7 = some (nI (y (52 + t) - E t), B) ∧
    FX2_tellOfTask B (nI t) 9 = some (nI (y (124 + t)), B) ∧ FX2_tellOfTask B (nI t) 10 = some (nI (y (148 + t)), B) ∧ FX2_tellOfTask B (nI t) 12 = some (nI (sumN (fun c => if y (236 + c) = t then y (276 + c) else 0) (y 3)), B) ∧
    ∃ R, FX2_tellOfTask B (nI t) 13 = some (R, B) ∧ ∀ i, i < 32 → bt R i = decide (i < pn P ∧ bhd P t i) := by
  have hn := h.n
  have hb := h.bp
  have hp := h.pl
  obtain ⟨x1, x2, x3⟩ := hb.2.1 t ht
  obtain ⟨g1, g2, g3, g4⟩ := h.by.2.2.2.1 t ht
  have e6 := h.e6 ht
  obtain ⟨l1, l2, l3⟩ := h.Ele ht
  have hd := h.DU
  have hh := p_has_nI hb.1 hn ht
  refine ⟨?_, ?_, ?_, ?_, ?_, ?_, ?_, ?_, ?_, ?_, ?_, ?_⟩
  · unfold FX2_tellOfTask
    rw [hh, c1_eq, if_neg (show ¬ (1 : Int32) = 0 by decide), if_pos rfl, ld_nI (by omega) (by decide), x1]
  · unfold FX2_tellOfTask
    rw [hh, c1_eq]
    (repeat rw [if_neg (by decide)])
    rw [if_pos rfl, ld_nI (by omega) (by decide), x2]
  · unfold FX2_tellOfTask
    rw [hh, c1_eq]
    (repeat rw [if_neg (by decide)])
    rw [if_pos rfl, ld_nI (by omega) (by decide), x3]
  · unfold FX2_tellOfTask
    rw [hh, c1_eq]
    (repeat rw [if_neg (by decide)])
    rw [if_pos rfl, p_placeOf hp hb ht, c1_eq]
  · unfold FX2_tellOfTask
    rw [hh, c1_eq]
    (repeat rw [if_neg (by decide)])
    rw [if_pos rfl, p_startOf (by omega), c1_eq, e6, x2, nI_sub l1]
  · unfold FX2_tellOfTask
    rw [hh, c1_eq]
    (repeat rw [if_neg (by decide)])
    rw [if_pos rfl, p_endOf_x hb.1 hn ht, c1_eq, e6]
  · unfold FX2_tellOfTask
    rw [hh, c1_eq]
    (repeat rw [if_neg (by decide)])
    rw [if_pos rfl, p_lateOf h.1 hd ht, c1_eq]
  · unfold FX2_tellOfTask
    rw [hh, c1_eq]
    (repeat rw [if_neg (by decide)])
    rw [if_pos rfl, p_spareOf h.1 hd ht, c1_eq]
  · unfold FX2_tellOfTask
    rw [hh, c1_eq]
    (repeat rw [if_neg (by decide)])
    rw [if_pos rfl, ld_nI (by omega) (by decide), g3]
  · unfold FX2_tellOfTask
    rw [hh, c1_eq]
    (repeat rw [if_neg (by decide)])
    rw [if_pos rfl, ld_nI (by omega) (by decide), g4]
  · unfold FX2_tellOfTask
    rw [hh, c1_eq]
    (repeat rw [if_neg (by decide)])
    rw [if_pos rfl, p_boughtBy (z := fun k => nI (y k)) h.by.2.2.1 h.2.2.2.1 (fun c hc => ⟨(h.by.2.2.2.2 c hc).2.1, (h.by.2.2.2.2 c hc).2.2.1⟩), c1_eq, ← addF_nI]
    rw [addF_congr (g := fun c => nI (if y (236 + c) = t then y (276 + c) else 0)) (fun c hc => ?_)]
    have w := h.2.2.2.2.2.2.2 c hc
    by_cases e : y (236 + c) = t
    · rw [if_pos e, if_pos (by rw [e])]
    · rw [if_neg e, if_neg (fun q => e ((nI_eq (by omega) (by omega)).mp q))]; rfl
  · obtain ⟨R, r1, r2⟩ := p_followersOf hp hb ht
    refine ⟨R, ?_, r2⟩
    unfold FX2_tellOfTask
    rw [hh, c1_eq]
    (repeat rw [if_neg (by decide)])
    rw [if_pos rfl, r1, c1_eq]
/-! reads of all -/
theorem ta {B : Blk} {P : PD} {E o y : Nat → Nat} (h : StB B P E o y) :
    FX2_tellOfAll B 0 = some (nI (pn P)) ∧ FX2_tellOfAll B 1 = some (nI (y 3)) ∧ FX2_tellOfAll B 3 = some (lset (fun t => E t - y (52 + t)) (pn P)) ∧ FX2_tellOfAll B 4 = some (nI (sumN (fun t => E t - y (52 + t)) (pn P))) ∧ FX2_tellOfAll B 5 = some (nI (maxN E (pn P))) ∧
    FX2_tellOfAll B 6 = some (nI (sumN (fun t => y (76 + t)) (pn P))) ∧ FX2_tellOfAll B 7 = some (nI (sumN (fun c => y (276 + c)) (y 3))) ∧ FX2_tellOfAll B 10 = some (nI (y 1)) ∧ FX2_tellOfAll B 11 = some (nI (y 2)) ∧
    FX2_tellOfAll B 12 = some (nI (cn P 0)) ∧ FX2_tellOfAll B 13 = some (nI (cn P 1)) ∧ FX2_tellOfAll B 14 = some (nI (cn P 2)) ∧ FX2_tellOfAll B 15 = some (nI (cn P 3)) := by
  have hn := h.n
  have hb := h.bp
  have hd := h.DU
  obtain ⟨b1, b2, b3, b4, b5⟩ := h.by
  have row : ∀ m, m < 4 → ld (B 9) 4 (nI m) (fun v => some v) = some (nI (cn P m)) := fun m hm => by
    rw [ld_nI hm (by decide), hb.2.2.1 m hm]
  refine ⟨?_, ?_, ?_, ?_, ?_, ?_, ?_, ?_, ?_, ?_, ?_, ?_, ?_⟩
  · unfold FX2_tellOfAll
    rw [if_pos rfl, hb.1]
  · unfold FX2_tellOfAll
    (repeat rw [if_neg (by decide)])
    rw [if_pos rfl, b3]
  · unfold FX2_tellOfAll
    (repeat rw [if_neg (by decide)])
    rw [if_pos rfl, p_lateTasks h.1 hd, c1_eq]
  · unfold FX2_tellOfAll
    (repeat rw [if_neg (by decide)])
    rw [if_pos rfl, p_lateTogether h.1 hd, c1_eq]
  · unfold FX2_tellOfAll
    (repeat rw [if_neg (by decide)])
    rw [if_pos rfl, p_endOfAll hb.1 hn (fun t ht => h.e6 ht) (fun t ht => by have := (h.Ele ht).2.1; omega), c1_eq]
  · unfold FX2_tellOfAll
    (repeat rw [if_neg (by decide)])
    rw [if_pos rfl, p_allMoney h.1, c1_eq, ← addF_nI]
    rw [addF_congr (g := fun t => nI (y (76 + t))) (fun t ht => zo_y (by omega))]
  · unfold FX2_tellOfAll
    (repeat rw [if_neg (by decide)])
    rw [if_pos rfl, p_allHours (z := fun k => nI (y k)) b3 h.2.2.2.1 (fun c hc => (b5 c hc).2.2.1), c1_eq, ← addF_nI]
  · unfold FX2_tellOfAll
    (repeat rw [if_neg (by decide)])
    rw [if_pos rfl, b1]
  · unfold FX2_tellOfAll
    (repeat rw [if_neg (by decide)])
    rw [if_pos rfl, b2]
  · unfold FX2_tellOfAll
    (repeat rw [if_neg (by decide)])
    rw [if_pos rfl]
    exact row 0 (by omega)
  · unfold FX2_tellOfAll
    (repeat rw [if_neg (by decide)])
    rw [if_pos rfl]
    exact row 1 (by omega)
  · unfold FX2_tellOfAll
    (repeat rw [if_neg (by decide)])
    rw [if_pos rfl]
    exact row 2 (by omega)
  · unfold FX2_tellOfAll
    (repeat rw [if_neg (by decide)])
    rw [if_pos rfl]
    exact row 3 (by omega)
