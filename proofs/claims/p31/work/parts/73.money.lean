/-! the least money: a buyer with plenty beside one with what it has -/
theorem step_eff {E y : Nat → Nat} {j f : Nat} (hj : j < 24) (hf : f < 24) (hjf : j ≠ f) (hk : y 3 < 40) : stepY E y j f (52 + f) = y (52 + f) + hrs E y j f ∧ stepY E y j f (76 + f) = y (76 + f) - hrs E y j f * y (148 + j) ∧ stepY E y j f 3 ≤ y 3 + 1 ∧ stepY E y j f 2 = y 2 ∧ ∀ t, t < 24 → t ≠ j → t ≠ f → stepY E y j f (52 + t) = y (52 + t) ∧ stepY E y j f (124 + t) = y (124 + t) ∧ stepY E y j f (148 + t) = y (148 + t) := by
  unfold stepY
  by_cases c : hrs E y j f = 0 ∨ 40 ≤ y 3
  · have c0 : hrs E y j f = 0 := c.resolve_right (by omega)
    rw [if_pos c, c0, Nat.zero_mul]
    exact ⟨rfl, rfl, by omega, rfl, fun t _ _ _ => ⟨rfl, rfl, rfl⟩⟩
  · rw [if_neg c]
    obtain ⟨a1, a2, a3, a4, a5, a6, a7, a8, a9, a10, a11, -, -⟩ := buyY_at (y := y) (x := hrs E y j f) hj hf hjf hk
    exact ⟨a5, a6, by omega, a2, fun t ht c1 c2 => ⟨(a11 t ht c1 c2).1, (a10 t ht c1).1, (a10 t ht c1).2⟩⟩
/-- what both see of the tasks that were not asked yet -/
def RR (n : Nat) (S : Int32) (yA yB : Nat → Nat) : Prop := yA 2 = yB 2 ∧ ∀ t, t < n → bt S t = false → yA (124 + t) = yB (124 + t) ∧ yA (148 + t) = yB (148 + t) ∧ yA (52 + t) = yB (52 + t)
theorem RR.sel {n : Nat} {S : Int32} {yA yB : Nat → Nat} (h : RR n S yA yB) (L : Nat → Int32) : sel n yA L S = sel n yB L S := by
  have := foldN_rel (R := fun s u : Nat => s = u ∧ (s = 99 ∨ (s < n ∧ bt S s = false))) (f := selS yA L S) (g := selS yB L S) (n := n) (s := 99) (u := 99) (fun t s u ht hR => by
    obtain ⟨rfl, hs⟩ := hR
    unfold selS
    by_cases c0 : bt S t = false
    · obtain ⟨g1, g2, -⟩ := h.2 t ht c0
      have eE : elig yA L S t ↔ elig yB L S t := by unfold elig; rw [g1, h.1]
      by_cases c99 : s = 99
      · by_cases c : elig yA L S t
        · rw [if_pos ⟨c, Or.inl c99⟩, if_pos ⟨eE.mp c, Or.inl c99⟩]
          exact ⟨rfl, Or.inr ⟨ht, c0⟩⟩
        · rw [if_neg (fun q => c q.1), if_neg (fun q => c (eE.mpr q.1))]
          exact ⟨rfl, hs⟩
      · obtain ⟨hs1, hs2⟩ := hs.resolve_left c99
        obtain ⟨w1, w2, -⟩ := h.2 s hs1 hs2
        have eB : bett yA L t s ↔ bett yB L t s := by unfold bett; rw [g2, w2]
        by_cases c : elig yA L S t ∧ (s = 99 ∨ bett yA L t s)
        · rw [if_pos c, if_pos ⟨eE.mp c.1, c.2.imp id eB.mp⟩]
          exact ⟨rfl, Or.inr ⟨ht, c0⟩⟩
        · rw [if_neg c, if_neg (fun q => c ⟨eE.mpr q.1, q.2.imp id eB.mpr⟩)]
          exact ⟨rfl, hs⟩
    · rw [if_neg (fun q => c0 q.1.1), if_neg (fun q => c0 q.1.1)]
      exact ⟨rfl, hs⟩) ⟨rfl, Or.inl rfl⟩
  exact this.1
theorem RR.step {n : Nat} (hn : n ≤ 24) {E : Nat → Nat} {S : Int32} {yA yB : Nat → Nat} {j f : Nat} (h : RR n S yA yB) (hS : bt S f = true) (hj : j < n) (hf : f < n) (hjf : j ≠ f) (hA : yA 3 < 40) (hB : yB 3 < 40) : RR n (S ||| ((1 : Int32) <<< (nI j &&& 31))) (stepY E yA j f) (stepY E yB j f) := by
  obtain ⟨-, -, -, a4, a5⟩ := step_eff (E := E) (y := yA) (show j < 24 by omega) (show f < 24 by omega) hjf hA
  obtain ⟨-, -, -, b4, b5⟩ := step_eff (E := E) (y := yB) (show j < 24 by omega) (show f < 24 by omega) hjf hB
  refine ⟨by rw [a4, b4]; exact h.1, fun t ht c => ?_⟩
  rw [bt_add (by omega) (by omega), Bool.or_eq_false_iff] at c
  have c1 : t ≠ j := by simpa using c.2
  have c2 : t ≠ f := fun e => by rw [e, hS] at c; exact absurd c.1 (by decide)
  obtain ⟨g1, g2, g3⟩ := h.2 t ht c.1
  obtain ⟨w1, w2, w3⟩ := a5 t (by omega) c1 c2
  obtain ⟨v1, v2, v3⟩ := b5 t (by omega) c1 c2
  rw [w1, w2, w3, v1, v2, v3]
  exact ⟨g1, g2, g3⟩
/-- nothing more can be bought -/
theorem poor {n : Nat} (hn : n ≤ 24) {E : Nat → Nat} {L : Nat → Int32} {f : Nat} : ∀ m S y, (∀ t, t < n → elig y L S t → y (76 + f) < y (148 + t)) → buyL n E L f m S y = y := by
  intro m
  induction m with
  | zero => intro S y _; rfl
  | succ m ih =>
    intro S y h
    unfold buyL
    by_cases c0 : E f - y (52 + f) = 0
    · rw [if_pos c0]
    · rw [if_neg c0]
      by_cases c1 : sel n y L S = 99
      · rw [if_pos c1]
      · rw [if_neg c1]
        obtain ⟨s1, s2, s3⟩ := sel_ok hn c1
        have hp := h _ s1 s2
        have hz : hrs E y (sel n y L S) f = 0 := by
          unfold hrs
          rw [if_neg (by omega), Nat.div_eq_of_lt hp]
          exact Nat.zero_min _
        have es : stepY E y (sel n y L S) f = y := by
          unfold stepY
          rw [if_pos (Or.inl hz)]
        rw [es]
        refine ih _ _ (fun t ht he => h t ht ⟨?_, he.2⟩)
        have := he.1
        rw [b_or, Bool.or_eq_false_iff] at this
        exact this.1
/-- with plenty of money it is never what limits -/
def Rich (n f m : Nat) (y : Nat → Nat) : Prop := 90000000 + 600000 * m ≤ y (76 + f) ∧ y 3 + m ≤ 39 ∧ ∀ t, t < n → y (124 + t) ≤ 500 ∧ y (148 + t) ≤ 1000
theorem rich_hrs {n f m : Nat} {E y : Nat → Nat} (h : Rich n f m y) {j : Nat} (hj : j < n) : hrs E y j f = hrsW E y j f ∧ hrsW E y j f ≤ 500 := by
  have w2 : hrsW E y j f ≤ y (124 + j) := by unfold hrsW; omega
  have g := h.2.2 j hj
  refine ⟨?_, by omega⟩
  unfold hrs
  by_cases c : y (148 + j) = 0
  · rw [if_pos c]
  · rw [if_neg c]
    have q : 500 ≤ y (76 + f) / y (148 + j) := (Nat.le_div_iff_mul_le (by omega)).mpr (by have := h.1; omega)
    exact Nat.min_eq_right (by omega)
theorem step_off {E y : Nat → Nat} {j f : Nat} (hj : j < 24) (hf : f < 24) (hjf : j ≠ f) (hk : y 3 < 40) : ∀ t, t < 24 → stepY E y j f (124 + t) ≤ y (124 + t) ∧ stepY E y j f (148 + t) ≤ y (148 + t) := by
  intro t ht
  unfold stepY
  by_cases c : hrs E y j f = 0 ∨ 40 ≤ y 3
  · rw [if_pos c]
    exact ⟨Nat.le_refl _, Nat.le_refl _⟩
  · rw [if_neg c]
    obtain ⟨a1, a2, a3, a4, a5, a6, a7, a8, a9, a10, a11, -, -⟩ := buyY_at (y := y) (x := hrs E y j f) hj hf hjf hk
    by_cases e : t = j
    · subst e
      rw [a8, a9]
      exact ⟨by omega, by split <;> omega⟩
    · rw [(a10 t ht e).1, (a10 t ht e).2]
      exact ⟨Nat.le_refl _, Nat.le_refl _⟩
theorem Rich.step {n f m : Nat} (hn : n ≤ 24) {E y : Nat → Nat} (h : Rich n f (m + 1) y) {j : Nat} (hj : j < n) (hf : f < n) (hjf : j ≠ f) : Rich n f m (stepY E y j f) := by
  obtain ⟨r1, r2⟩ := rich_hrs (E := E) h hj
  have g := h.2.2 j hj
  have hk : y 3 < 40 := by have := h.2.1; omega
  obtain ⟨e1, e2, e3, e4, e5⟩ := step_eff (E := E) (y := y) (show j < 24 by omega) (show f < 24 by omega) hjf hk
  have hx : hrs E y j f * y (148 + j) ≤ 500 * 1000 := Nat.mul_le_mul (by omega) g.2
  have h1 := h.1
  have h2 := h.2.1
  refine ⟨by rw [e2]; omega, by omega, fun t ht => ?_⟩
  have w := h.2.2 t ht
  have v := step_off (E := E) (y := y) (show j < 24 by omega) (show f < 24 by omega) hjf hk t (by omega)
  omega
theorem mon_le {n : Nat} (hn : n ≤ 24) {E : Nat → Nat} {L : Nat → Int32} {f : Nat} (hf : f < n) {m : Nat} {S : Int32} {y : Nat → Nat} (hS : bt S f = true) : buyL n E L f m S y (76 + f) ≤ y (76 + f) := by
  refine buyL_ind hn (Φ := fun y' => y' (76 + f) ≤ y (76 + f)) (fun y' j hj hjf _ _ h => ?_) m S y hS (Nat.le_refl _)
  rcases step_cases E y' j f with e | ⟨x, -, -, hk, e⟩
  · rw [e]; exact h
  · rw [e]
    obtain ⟨a1, a2, a3, a4, a5, a6, -⟩ := buyY_at (y := y') (x := x) (show j < 24 by omega) (show f < 24 by omega) hjf hk
    rw [a6]
    omega
theorem lock_a {n : Nat} (hn : n ≤ 24) {E : Nat → Nat} {L : Nat → Int32} {f : Nat} (hf : f < n) : ∀ m S yA yB, bt S f = true → RR n S yA yB → Rich n f m yA → yB 3 + m ≤ 39 → E f - yA (52 + f) ≤ E f - yB (52 + f) → E f - buyL n E L f m S yA (52 + f) ≤ E f - buyL n E L f m S yB (52 + f) := by
  intro m
  induction m with
  | zero => intro S yA yB _ _ _ _ h; exact h
  | succ m ih =>
    intro S yA yB hS hR hA hB hl
    unfold buyL
    by_cases c0 : E f - yA (52 + f) = 0
    · rw [if_pos c0, c0]; exact Nat.zero_le _
    · rw [if_neg c0, if_neg (show ¬ E f - yB (52 + f) = 0 by omega), ← hR.sel L]
      by_cases c1 : sel n yA L S = 99
      · rw [if_pos c1, if_pos c1]; exact hl
      · rw [if_neg c1, if_neg c1]
        obtain ⟨s1, s2, s3⟩ := sel_ok hn c1
        obtain ⟨j, hj⟩ : ∃ j, sel n yA L S = j := ⟨_, rfl⟩
        rw [hj] at s1 s2 ⊢
        have hjf : j ≠ f := fun e => by
          have := s2.1
          rw [e, hS] at this
          cases this
        have kA : yA 3 < 40 := by have := hA.2.1; omega
        have kB : yB 3 < 40 := by omega
        obtain ⟨a1, -⟩ := step_eff (E := E) (y := yA) (show j < 24 by omega) (show f < 24 by omega) hjf kA
        obtain ⟨b1, b2, b3, -⟩ := step_eff (E := E) (y := yB) (show j < 24 by omega) (show f < 24 by omega) hjf kB
        obtain ⟨g1, g2, g3⟩ := hR.2 j s1 s2.1
        have hx := (rich_hrs (E := E) hA s1).1
        obtain ⟨w1, w2, w3, w4⟩ := hrs_le E yB j f
        refine ih _ _ _ (by rw [b_or, hS]; rfl) (hR.step hn hS s1 hf hjf kA kB) (hA.step hn s1 hf hjf) (by omega) ?_
        rw [a1, b1, hx]
        unfold hrsW
        rw [g1, g3]
        omega
theorem lock_b {n : Nat} (hn : n ≤ 24) {E : Nat → Nat} {L : Nat → Int32} {f : Nat} (hf : f < n) : ∀ m S yA yB, bt S f = true → RR n S yA yB → Rich n f m yA → yB 3 + m ≤ 39 → E f - yA (52 + f) = E f - yB (52 + f) → E f - buyL n E L f m S yA (52 + f) = 0 →
    (yA (76 + f) - buyL n E L f m S yA (76 + f) ≤ yB (76 + f) → E f - buyL n E L f m S yB (52 + f) = 0 ∧ yB (76 + f) - buyL n E L f m S yB (76 + f) = yA (76 + f) - buyL n E L f m S yA (76 + f)) ∧ (yB (76 + f) < yA (76 + f) - buyL n E L f m S yA (76 + f) → 0 < E f - buyL n E L f m S yB (52 + f)) := by
  intro m
  induction m with
  | zero =>
    intro S yA yB _ _ _ _ hl h0
    have h0' : E f - yA (52 + f) = 0 := h0
    show (yA (76 + f) - yA (76 + f) ≤ yB (76 + f) → E f - yB (52 + f) = 0 ∧ yB (76 + f) - yB (76 + f) = yA (76 + f) - yA (76 + f)) ∧ (yB (76 + f) < yA (76 + f) - yA (76 + f) → 0 < E f - yB (52 + f))
    exact ⟨fun _ => by omega, fun q => by omega⟩
  | succ m ih =>
    intro S yA yB hS hR hA hB hl h0
    by_cases c0 : E f - yA (52 + f) = 0
    · have eA : buyL n E L f (m + 1) S yA = yA := by rw [buyL, if_pos c0]
      have eB : buyL n E L f (m + 1) S yB = yB := by rw [buyL, if_pos (by omega)]
      rw [eA, eB]
      exact ⟨fun _ => by omega, fun q => by omega⟩
    · by_cases c1 : sel n yA L S = 99
      · have eA : buyL n E L f (m + 1) S yA = yA := by rw [buyL, if_neg c0, if_pos c1]
        rw [eA] at h0
        exact absurd h0 c0
      · obtain ⟨s1, s2, s3⟩ := sel_ok hn c1
        have eA : buyL n E L f (m + 1) S yA = buyL n E L f m (S ||| ((1 : Int32) <<< (nI (sel n yA L S) &&& 31))) (stepY E yA (sel n yA L S) f) := by rw [buyL, if_neg c0, if_neg c1]
        have eB : buyL n E L f (m + 1) S yB = buyL n E L f m (S ||| ((1 : Int32) <<< (nI (sel n yA L S) &&& 31))) (stepY E yB (sel n yA L S) f) := by rw [buyL, if_neg (by omega), ← hR.sel L, if_neg c1]
        rw [eA] at h0 ⊢
        rw [eB]
        obtain ⟨j, hj⟩ : ∃ j, sel n yA L S = j := ⟨_, rfl⟩
        have s3B : ∀ t, t < n → elig yB L S t → yB (148 + j) ≤ yB (148 + t) := by
          have := (sel_ok (y := yB) (L := L) (S := S) hn (by rw [← hR.sel L]; exact c1)).2.2
          rw [← hR.sel L, hj] at this
          exact this
        rw [hj] at s1 s2 h0 ⊢
        have hjf : j ≠ f := fun e => by
          have := s2.1
          rw [e, hS] at this
          cases this
        have kA : yA 3 < 40 := by have := hA.2.1; omega
        have kB : yB 3 < 40 := by omega
        obtain ⟨a1, a2, -⟩ := step_eff (E := E) (y := yA) (show j < 24 by omega) (show f < 24 by omega) hjf kA
        obtain ⟨b1, b2, b3, b4, b5⟩ := step_eff (E := E) (y := yB) (show j < 24 by omega) (show f < 24 by omega) hjf kB
        obtain ⟨g1, g2, g3⟩ := hR.2 j s1 s2.1
        have hx := (rich_hrs (E := E) hA s1).1
        obtain ⟨u1', u2', u3', u4'⟩ := hrs_le E yA j f
        obtain ⟨w1, w2, w3, w4⟩ := hrs_le E yB j f
        have hWW : hrsW E yA j f = hrsW E yB j f := by
          unfold hrsW
          rw [g1, g3, hl]
        have hS' : bt (S ||| ((1 : Int32) <<< (nI j &&& 31))) f = true := by rw [b_or, hS]; rfl
        have mA := mon_le hn (E := E) (L := L) hf (m := m) (S := S ||| ((1 : Int32) <<< (nI j &&& 31))) (y := stepY E yA j f) hS'
        have mB := mon_le hn (E := E) (L := L) hf (m := m) (S := S ||| ((1 : Int32) <<< (nI j &&& 31))) (y := stepY E yB j f) hS'
        by_cases cx : hrs E yB j f = hrs E yA j f
        · have i := ih (S ||| ((1 : Int32) <<< (nI j &&& 31))) (stepY E yA j f) (stepY E yB j f) hS' (hR.step hn hS s1 hf hjf kA kB) (hA.step hn s1 hf hjf) (by omega) (by rw [a1, b1, cx]; omega) h0
          rw [cx, ← g2] at b2 w4
          obtain ⟨X, hX⟩ : ∃ X, hrs E yA j f * yA (148 + j) = X := ⟨_, rfl⟩
          rw [hX] at a2 b2 w4 u4'
          exact ⟨fun q => by
            have := i.1 (by omega)
            omega, fun q => i.2 (by omega)⟩
        · have hp : ¬ yB (148 + j) = 0 := fun e => cx (by rw [hx, hWW]; unfold hrs; rw [if_pos e])
          have hxB : hrs E yB j f = yB (76 + f) / yB (148 + j) ∧ hrs E yB j f < hrs E yA j f := by
            have e : hrs E yB j f = min (yB (76 + f) / yB (148 + j)) (hrs E yA j f) := by
              rw [hx, hWW]
              unfold hrs
              rw [if_neg hp]
            omega
          have hlt : yB (76 + f) < hrs E yA j f * yB (148 + j) := (Nat.div_lt_iff_lt_mul (by omega)).mp (by omega)
          rw [g2] at a2 u4'
          have hmod : stepY E yB j f (76 + f) < yB (148 + j) := by
            rw [b2, hxB.1]
            have e := Nat.div_add_mod (yB (76 + f)) (yB (148 + j))
            have l := Nat.mod_lt (yB (76 + f)) (show yB (148 + j) > 0 by omega)
            rw [Nat.mul_comm] at e
            omega
          have hpoor := poor hn (E := E) (L := L) (f := f) m (S ||| ((1 : Int32) <<< (nI j &&& 31))) (stepY E yB j f) (fun t ht he => by
            have e1 := he.1
            rw [bt_add (by omega) (by omega), Bool.or_eq_false_iff] at e1
            have c1 : t ≠ j := by simpa using e1.2
            have c2 : t ≠ f := fun e => by rw [e, hS] at e1; exact absurd e1.1 (by decide)
            obtain ⟨v1, v2, v3⟩ := b5 t (by omega) c1 c2
            have he2 : elig yB L S t := ⟨e1.1, by rw [← v2]; exact he.2.1, he.2.2.1, by rw [← b4]; exact he.2.2.2⟩
            have := s3B t ht he2
            rw [v3]
            omega)
          rw [hpoor]
          exact ⟨fun q => by omega, fun _ => by rw [b1]; omega⟩
