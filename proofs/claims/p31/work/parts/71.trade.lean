/-! a buyer's round over the offers, a trade: the class does what the functions say -/
def lkv (P : PD) (b : Nat) : Nat → Int32 := MF P b (fun _ => 0)
def buyL (n : Nat) (E : Nat → Nat) (L : Nat → Int32) (b : Nat) : Nat → Int32 → (Nat → Nat) → Nat → Nat
  | 0, _, y => y
  | m + 1, S, y => if E b - y (52 + b) = 0 then y else if sel n y L S = 99 then y else buyL n E L b m (S ||| ((1 : Int32) <<< (nI (sel n y L S) &&& 31))) (stepY E y (sel n y L S) b)
theorem b_buyLoop {P : PD} {E o : Nat → Nat} {b : Nat} (hb : b < pn P) {L : Nat → Int32} : ∀ m turn fuel S B y, StB B P E o y → (∀ j, j < pn P → B 11 j = L j) → bt S b = true → pn P - turn = m → turn ≤ pn P → m < fuel → ∃ B' : Blk, FX2_buyFor_14 fuel (nI b) S (nI turn) B = some B' ∧ StB B' P E o (buyL (pn P) E L b m S y) := by
  intro m
  induction m with
  | zero =>
    intro turn fuel S B y h hL hS hm ht hf
    have hn := h.n
    obtain ⟨k, rfl⟩ : ∃ k, fuel = k + 1 := ⟨fuel - 1, by omega⟩
    refine ⟨B, ?_, h⟩
    show FX2_buyFor_14s _ _ _ _ _ = _
    unfold FX2_buyFor_14s
    rw [h.bp.1, le_nI (by omega) (by omega), if_pos (by omega)]
  | succ m ih =>
    intro turn fuel S B y h hL hS hm ht hf
    have hn := h.n
    obtain ⟨k, rfl⟩ : ∃ k, fuel = k + 1 := ⟨fuel - 1, by omega⟩
    have lt : FX2_lateOf B (nI b) = some (nI (E b - y (52 + b))) := p_lateOf h.1 h.DU hb
    obtain ⟨eb1, eb2, eb3⟩ := h.Ele hb
    obtain ⟨p1, p2⟩ := p_sel h hL S
    show ∃ B', FX2_buyFor_14s (FX2_buyFor_14 k) _ _ _ _ = _ ∧ _
    unfold FX2_buyFor_14s buyL
    rw [h.bp.1, le_nI (by omega) (by omega), if_neg (by omega), lt, c1_eq, if_nIle0 (by omega), p1, c1_eq]
    by_cases c0 : E b - y (52 + b) = 0
    · rw [if_pos c0, if_pos c0]
      exact ⟨B, rfl, h⟩
    · rw [if_neg c0, if_neg c0]
      by_cases c1 : sel (pn P) y L S = 99
      · rw [if_pos c1, if_pos (by rw [c1]; rfl)]
        exact ⟨B, rfl, h⟩
      · obtain ⟨s1, s2, s3⟩ := sel_ok hn c1
        rw [if_neg c1]
        obtain ⟨j, hj⟩ : ∃ j, sel (pn P) y L S = j := ⟨_, rfl⟩
        rw [hj] at s1 s2 ⊢
        have hjb : j ≠ b := fun e => by
          have := s2.1
          rw [e, hS] at this
          cases this
        obtain ⟨B1, q1, q2, q3⟩ := b_buyFrom h s1 hb hjb
        rw [aI_lt (by omega), if_neg (m6_ne (by omega)), lt1_eq, q1, c1_eq, lt1_eq, nI_1]
        exact ih (turn + 1) k _ B1 _ q2 (fun i hi => by rw [q3]; exact hL i hi) (by rw [b_or, hS]; rfl) (by omega) (by omega) (by omega)
theorem b_buyFor {B : Blk} {P : PD} {E o y : Nat → Nat} (h : StB B P E o y) {b : Nat} (hb : b < pn P) : ∃ B' : Blk, FX2_buyFor B (nI b) = some B' ∧ StB B' P E o (buyL (pn P) E (lkv P b) b (pn P) ((1 : Int32) <<< (nI b &&& 31)) y) := by
  have hn := h.n
  have h1 : StB (bc B 11 (MF P b (B 11))) P E o y := h.fr (fun q q1 q2 q3 => bc_ne q2)
  unfold FX2_buyFor
  rw [p_measureFrom h.pl h.bp hb, c1_eq, lt1_eq]
  exact b_buyLoop hb (pn P) 0 fu _ _ y h1 (fun j hj => by rw [bc_at]; exact MF_AG b _ _ j hj) (by rw [bt_one (by omega) (by omega), decide_eq_true rfl]) (by omega) (by omega) (fu_gt (by omega))
def latS (E y : Nat → Nat) (S : Int32) (t best : Nat) : Nat := if bt S t = false ∧ (if best = 99 then 0 else E best - y (52 + best)) < E t - y (52 + t) then t else best
def lat (n : Nat) (E y : Nat → Nat) (S : Int32) : Nat := foldN (latS E y S) n 99
theorem p_lat {B : Blk} {P : PD} {E o y : Nat → Nat} (h : StB B P E o y) (S : Int32) : FX2_latestExcept B S = some (aI (lat (pn P) E y S)) ∧ (lat (pn P) E y S < pn P ∨ lat (pn P) E y S = 99) := by
  have hn := h.n
  have lt : ∀ t, t < pn P → FX2_lateOf B (nI t) = some (nI (E t - y (52 + t))) := fun t ht => p_lateOf h.1 h.DU ht
  unfold FX2_latestExcept lat
  refine loop_inv (fun fuel t s => FX2_latestExcept_5 B fuel S (aI s) (nI t)) (pn P) (fun _ s => s < pn P ∨ s = 99) (latS E y S) (fun s => some (aI s)) ?_ ?_ ?_ (fu_gt (show pn P < 100000 by omega)) (s := 99) (Or.inr rfl)
  · intro k s _
    show FX2_latestExcept_5s B _ _ _ _ = _
    unfold FX2_latestExcept_5s
    rw [h.bp.1, le_nI (by omega) (by omega), if_pos (Nat.le_refl _)]
  · intro k t s ht hs
    obtain ⟨e1, e2, e3⟩ := h.Ele ht
    show FX2_latestExcept_5s B (FX2_latestExcept_5 B k) _ _ _ = _
    unfold FX2_latestExcept_5s FX2_latestExcept_44 latS
    rw [h.bp.1, le_nI (by omega) (by omega), if_neg (by omega), bt_ite (by omega), lt t ht, c1_eq, lt1_eq, lt1_eq, nI_1]
    by_cases q0 : bt S t = true
    · rw [if_pos q0, if_neg (fun q => by rw [q.1] at q0; cases q0)]
    · have q0' : bt S t = false := by simpa using q0
      rw [if_neg q0]
      rcases hs with hs | hs
      · obtain ⟨f1, f2, f3⟩ := h.Ele hs
        rw [aI_lt (a := s) (by omega), if_neg (m6_ne (by omega)), lt s hs, c1_eq, le_nI (by omega) (by omega), if_neg (show ¬ s = 99 by omega)]
        by_cases w : E t - y (52 + t) ≤ E s - y (52 + s)
        · rw [if_pos w, if_neg (fun q => by have := q.2; omega), aI_lt (by omega)]
        · rw [if_neg w, if_pos ⟨q0', by omega⟩, aI_lt (by omega)]
      · subst hs
        rw [aI_99, if_pos rfl, if_pos (show (99 : Nat) = 99 from rfl), if_nIle0 (by omega)]
        by_cases w : E t - y (52 + t) = 0
        · rw [if_pos w, if_neg (fun q => by have := q.2; omega), aI_99]
        · rw [if_neg w, if_pos ⟨q0', by omega⟩, aI_lt (by omega)]
  · intro t s ht hs
    unfold latS
    by_cases c : bt S t = false ∧ (if s = 99 then 0 else E s - y (52 + s)) < E t - y (52 + t)
    · rw [if_pos c]; exact Or.inl ht
    · rw [if_neg c]; exact hs
theorem lat_ok {n : Nat} {E y : Nat → Nat} {S : Int32} (hn : n ≤ 24) (h : ¬ lat n E y S = 99) : lat n E y S < n ∧ bt S (lat n E y S) = false ∧ 0 < E (lat n E y S) - y (52 + lat n E y S) := by
  have := foldN_inv (I := fun s => s = 99 ∨ (s < n ∧ bt S s = false ∧ 0 < E s - y (52 + s))) (f := latS E y S) (n := n) (s := 99) (fun t s ht hs => by
    unfold latS
    by_cases c : bt S t = false ∧ (if s = 99 then 0 else E s - y (52 + s)) < E t - y (52 + t)
    · rw [if_pos c]; exact Or.inr ⟨ht, c.1, Nat.lt_of_le_of_lt (Nat.zero_le _) c.2⟩
    · rw [if_neg c]; exact hs) (Or.inl rfl)
  exact this.resolve_left h
def tradeL (P : PD) (E : Nat → Nat) : Nat → Int32 → (Nat → Nat) → Nat → Nat
  | 0, _, y => y
  | m + 1, S, y => if lat (pn P) E y S = 99 then y else tradeL P E m (S ||| ((1 : Int32) <<< (nI (lat (pn P) E y S) &&& 31))) (buyL (pn P) E (lkv P (lat (pn P) E y S)) (lat (pn P) E y S) (pn P) ((1 : Int32) <<< (nI (lat (pn P) E y S) &&& 31)) y)
theorem b_tradeLoop {P : PD} {E o : Nat → Nat} {l1 : Int32} : ∀ m turn fuel S B y, StB B P E o y → pn P - turn = m → turn ≤ pn P → m < fuel → ∃ B' : Blk, FX2_tradeAll_12 fuel l1 S (nI turn) B = some (nI (tradeL P E m S y 3) - l1, B') ∧ StB B' P E o (tradeL P E m S y) := by
  intro m
  induction m with
  | zero =>
    intro turn fuel S B y h hm ht hf
    have hn := h.n
    obtain ⟨k, rfl⟩ : ∃ k, fuel = k + 1 := ⟨fuel - 1, by omega⟩
    refine ⟨B, ?_, h⟩
    show FX2_tradeAll_12s _ _ _ _ _ = _
    unfold FX2_tradeAll_12s FX2_tradeAll_59
    rw [h.bp.1, le_nI (by omega) (by omega), if_pos (by omega), h.by.2.2.1]; rfl
  | succ m ih =>
    intro turn fuel S B y h hm ht hf
    have hn := h.n
    obtain ⟨k, rfl⟩ : ∃ k, fuel = k + 1 := ⟨fuel - 1, by omega⟩
    obtain ⟨p1, p2⟩ := p_lat h S
    show ∃ B', FX2_tradeAll_12s (FX2_tradeAll_12 k) _ _ _ _ = _ ∧ _
    unfold FX2_tradeAll_12s tradeL FX2_tradeAll_59
    rw [h.bp.1, le_nI (by omega) (by omega), if_neg (by omega), p1, c1_eq]
    by_cases c1 : lat (pn P) E y S = 99
    · rw [if_pos c1, if_pos (by rw [c1]; rfl), h.by.2.2.1]
      exact ⟨B, rfl, h⟩
    · obtain ⟨s1, s2, s3⟩ := lat_ok hn c1
      rw [if_neg c1]
      obtain ⟨b, hb⟩ : ∃ b, lat (pn P) E y S = b := ⟨_, rfl⟩
      rw [hb] at s1 s2 ⊢
      obtain ⟨B1, q1, q2⟩ := b_buyFor h s1
      rw [aI_lt (by omega), if_neg (m6_ne (by omega)), lt1_eq, q1, c1_eq, lt1_eq, nI_1]
      exact ih (turn + 1) k _ B1 _ q2 (by omega) (by omega) (by omega)
theorem b_trade {B : Blk} {P : PD} {E o y : Nat → Nat} (h : StB B P E o y) : ∃ B' : Blk, FX2_tradeAll B = some (nI (tradeL P E (pn P) 0 y 3) - nI (y 3), B') ∧ StB B' P E o (tradeL P E (pn P) 0 y) := by
  have hn := h.n
  unfold FX2_tradeAll
  rw [lt1_eq, h.by.2.2.1]
  exact b_tradeLoop (pn P) 0 fu 0 B y h (by omega) (by omega) (fu_gt (by omega))
/-! what holds through -/
theorem step_cases (E y : Nat → Nat) (j b : Nat) : stepY E y j b = y ∨ ∃ x, 1 ≤ x ∧ x = hrs E y j b ∧ y 3 < 40 ∧ stepY E y j b = buyY y j b x := by
  unfold stepY
  by_cases c : hrs E y j b = 0 ∨ 40 ≤ y 3
  · rw [if_pos c]; exact Or.inl rfl
  · rw [if_neg c]
    exact Or.inr ⟨_, by omega, rfl, by omega, rfl⟩
theorem buyL_ind {n : Nat} (hn : n ≤ 24) {E : Nat → Nat} {L : Nat → Int32} {b : Nat} {Φ : (Nat → Nat) → Prop} (hstep : ∀ y j, j < n → j ≠ b → ¬ L j = -6 → ¬ nI (y 2) < L j → Φ y → Φ (stepY E y j b)) : ∀ m S y, bt S b = true → Φ y → Φ (buyL n E L b m S y) := by
  intro m
  induction m with
  | zero => intro S y _ h; exact h
  | succ m ih =>
    intro S y hS h
    unfold buyL
    by_cases c0 : E b - y (52 + b) = 0
    · rw [if_pos c0]; exact h
    · rw [if_neg c0]
      by_cases c1 : sel n y L S = 99
      · rw [if_pos c1]; exact h
      · rw [if_neg c1]
        obtain ⟨s1, s2, s3⟩ := sel_ok hn c1
        refine ih _ _ (by rw [b_or, hS]; rfl) (hstep y _ s1 (fun e => ?_) s2.2.2.1 s2.2.2.2 h)
        have := s2.1
        rw [e, hS] at this
        cases this
theorem tradeL_ind {P : PD} (hn : pn P ≤ 24) {E : Nat → Nat} {Φ : (Nat → Nat) → Prop} {Q : Nat → Prop} (hstep : ∀ y j b, b < pn P → Q b → j < pn P → j ≠ b → ¬ lkv P b j = -6 → ¬ nI (y 2) < lkv P b j → Φ y → Φ (stepY E y j b)) : ∀ m S y, (∀ b, b < pn P → bt S b = false → Q b) → Φ y → Φ (tradeL P E m S y) := by
  intro m
  induction m with
  | zero => intro S y _ h; exact h
  | succ m ih =>
    intro S y hQ h
    unfold tradeL
    by_cases c1 : lat (pn P) E y S = 99
    · rw [if_pos c1]; exact h
    · rw [if_neg c1]
      obtain ⟨s1, s2, s3⟩ := lat_ok hn c1
      refine ih _ _ (fun b hb hb2 => hQ b hb ?_) (buyL_ind hn (fun y j a1 a2 a3 a4 a5 => hstep y j _ s1 (hQ _ s1 s2) a1 a2 a3 a4 a5) _ _ _ (by rw [bt_one (by omega) (by omega), decide_eq_true rfl]) h)
      rw [b_or] at hb2
      rw [Bool.or_eq_false_iff] at hb2
      exact hb2.1
/-- contracts are between two tasks, the seller is not late, the buyer was in reach of it -/
def CO (P : PD) (E y : Nat → Nat) : Prop := ∀ c, c < y 3 → y (196 + c) ≠ y (236 + c) ∧ 1 ≤ y (276 + c) ∧ E (y (196 + c)) ≤ y (52 + y (196 + c)) ∧ ¬ lkv P (y (236 + c)) (y (196 + c)) = -6 ∧ ¬ nI (y 2) < lkv P (y (236 + c)) (y (196 + c))
def TI (P : PD) (E : Nat → Nat) (D0 M0 r0 : Nat) (y : Nat → Nat) : Prop := YB (pn P) y ∧ CO P E y ∧ sumN (fun t => y (52 + t)) (pn P) = D0 ∧ sumN (fun t => y (76 + t)) (pn P) = M0 ∧ y 1 = r0
theorem ti_step {P : PD} (hn : pn P ≤ 24) {E : Nat → Nat} {D0 M0 r0 : Nat} : ∀ y j b, b < pn P → True → j < pn P → j ≠ b → ¬ lkv P b j = -6 → ¬ nI (y 2) < lkv P b j → TI P E D0 M0 r0 y → TI P E D0 M0 r0 (stepY E y j b) := by
  intro y j b hb _ hj hjb l1 l2 h
  rcases step_cases E y j b with e | ⟨x, hx1, hx, hk, e⟩
  · rw [e]; exact h
  · rw [e]
    obtain ⟨h1, h2, h3, h4, h5⟩ := h
    obtain ⟨w1, w2, w3, w4⟩ := hrs_le E y j b
    rw [← hx] at w1 w2 w3 w4
    obtain ⟨v1, v2, v3⟩ := yb_buy (E := E) hn h1 hj hb hjb hk (x := x) (by omega) w2 w4
    obtain ⟨a1, a2, a3, a4, a5, a6, a7, a8, a9, a10, a11, ⟨a12, a13, a14, a15⟩, a16⟩ := buyY_at (y := y) (x := x) (show j < 24 by omega) (show b < 24 by omega) hjb hk
    refine ⟨v1, fun c hc => ?_, by rw [v2]; exact h3, by rw [v3]; exact h4, by rw [a1]; exact h5⟩
    rw [a3] at hc
    rcases Nat.lt_or_ge c (y 3) with w | w
    · obtain ⟨g1, g2, g3, g4⟩ := a16 c w
      obtain ⟨q1, q2, q3, q4, q5⟩ := h2 c w
      rw [g1, g2, g3, a2]
      refine ⟨q1, q2, ?_, q4, q5⟩
      have hs := (h1.2.2.2.2.2.2 c w).1
      by_cases cj : y (196 + c) = j
      · rw [cj] at q3 ⊢
        rw [a4]; omega
      · by_cases cb : y (196 + c) = b
        · rw [cb] at q3 ⊢
          rw [a5]; omega
        · rw [(a11 _ (by omega) cj cb).1]; exact q3
    · have ec : c = y 3 := by omega
      subst ec
      rw [a12, a13, a14, a2, a4]
      exact ⟨hjb, hx1, by omega, l1, l2⟩
/-- hours that f has bought -/
def boC (y : Nat → Nat) (f : Nat) : Nat := sumN (fun c => if y (236 + c) = f then y (276 + c) else 0) (y 3)
theorem boC_buy {y : Nat → Nat} {j b x f : Nat} (hj : j < 24) (hb : b < 24) (hjb : j ≠ b) (hk : y 3 < 40) : boC (buyY y j b x) f = boC y f + (if b = f then x else 0) := by
  obtain ⟨a1, a2, a3, a4, a5, a6, a7, a8, a9, a10, a11, ⟨a12, a13, a14, a15⟩, a16⟩ := buyY_at (y := y) (x := x) hj hb hjb hk
  unfold boC
  rw [a3, sumN, a13, a14]
  rw [sumN_congr (g := fun c => if y (236 + c) = f then y (276 + c) else 0) (fun c hc => by rw [(a16 c hc).2.1, (a16 c hc).2.2.1])]
/-- while f buys -/
theorem f1_step {n : Nat} (hn : n ≤ 24) {E : Nat → Nat} {f D0 : Nat} (hf : f < n) : ∀ y j, j < n → j ≠ f → (y (52 + f) ≤ E f ∧ y (52 + f) = D0 + boC y f) → (stepY E y j f (52 + f) ≤ E f ∧ stepY E y j f (52 + f) = D0 + boC (stepY E y j f) f) := by
  intro y j hj hjf h
  rcases step_cases E y j f with e | ⟨x, hx1, hx, hk, e⟩
  · rw [e]; exact h
  · rw [e]
    obtain ⟨w1, w2, w3, w4⟩ := hrs_le E y j f
    rw [← hx] at w1 w2 w3 w4
    obtain ⟨a1, a2, a3, a4, a5, -⟩ := buyY_at (y := y) (x := x) (show j < 24 by omega) (show f < 24 by omega) hjf hk
    rw [a5, boC_buy (by omega) (by omega) hjf hk, if_pos rfl]
    omega
/-- while others buy -/
theorem f2_step {n : Nat} (hn : n ≤ 24) {E : Nat → Nat} {f D1 W : Nat} (hf : f < n) (hD : D1 ≤ E f) : ∀ y j b, b < n → b ≠ f → j < n → j ≠ b → (y (52 + f) = D1 ∧ boC y f = W) → (stepY E y j b (52 + f) = D1 ∧ boC (stepY E y j b) f = W) := by
  intro y j b hb hbf hj hjb h
  rcases step_cases E y j b with e | ⟨x, hx1, hx, hk, e⟩
  · rw [e]; exact h
  · rw [e]
    obtain ⟨w1, w2, w3, w4⟩ := hrs_le E y j b
    rw [← hx] at w1 w2 w3 w4
    obtain ⟨a1, a2, a3, a4, a5, a6, a7, a8, a9, a10, a11, -⟩ := buyY_at (y := y) (x := x) (show j < 24 by omega) (show b < 24 by omega) hjb hk
    rw [boC_buy (by omega) (by omega) hjb hk, if_neg hbf]
    have hjf : f ≠ j := by
      intro e
      subst e
      omega
    rw [(a11 f (by omega) hjf (Ne.symm hbf)).1]
    exact h
