/-! what stands behind a task -/
def bfold (c : Nat → Bool) (n : Nat) (S : Int32) : Int32 := foldN (fun t a => if c t = true then a ||| ((1 : Int32) <<< (nI t &&& 31)) else a) n S
theorem bt_bfold {c : Nat → Bool} {n : Nat} {S : Int32} (hn : n ≤ 24) {i : Nat} (hi : i < 32) : bt (bfold c n S) i = (bt S i || (decide (i < n) && c i)) := by
  unfold bfold
  induction n with
  | zero => rw [foldN, decide_eq_false (by omega), Bool.false_and, Bool.or_false]
  | succ n ih =>
    rw [foldN]
    have ih2 := ih (by omega)
    by_cases q : c n = true
    · rw [if_pos q, bt_add (by omega) hi, ih2]
      by_cases e : i = n
      · subst e
        rw [decide_eq_true rfl, q, decide_eq_true (show i < i + 1 by omega), Bool.or_true, Bool.and_self, Bool.or_true]
      · rw [decide_eq_false e, Bool.or_false]
        by_cases e2 : i < n
        · rw [decide_eq_true e2, decide_eq_true (show i < n + 1 by omega)]
        · rw [decide_eq_false e2, decide_eq_false (show ¬ i < n + 1 by omega)]
    · rw [if_neg q, ih2]
      by_cases e : i = n
      · subst e
        rw [decide_eq_false (show ¬ i < i by omega), decide_eq_true (show i < i + 1 by omega), show c i = false by simpa using q]; rfl
      · by_cases e2 : i < n
        · rw [decide_eq_true e2, decide_eq_true (show i < n + 1 by omega)]
        · rw [decide_eq_false e2, decide_eq_false (show ¬ i < n + 1 by omega)]
abbrev bhd (P : PD) (t i : Nat) : Prop := (pm P i = pm P t ∧ pp P i = pp P t + 1) ∨ pa P i = t
theorem ra_iff {P : PD} (hP : Pln P) {m p i : Nat} (hi : i < pn P) : ra P m p = i ↔ pm P i = m ∧ pp P i = p := by
  have hn := hP.1
  constructor
  · intro e
    have := ra_lt (P := P) (m := m) (p := p) (by omega) hn
    rw [e] at this
    exact this.2
  · intro e
    have := ra_of hP hi
    rw [e.1, e.2] at this
    exact this
theorem ra_or {P : PD} (hn : pn P ≤ 24) (m p : Nat) : ra P m p < pn P ∨ ra P m p = 99 := by
  rcases rowAt_spec (mach := pm P) (place := pp P) (n := pn P) (m := m) (p := p) with ⟨h1, -⟩ | ⟨h1, -⟩
  · exact Or.inl h1
  · exact Or.inr h1
theorem p_followersOf {B : Blk} {P : PD} (hP : Pln P) (hB : BPl B P) {t : Nat} (ht : t < pn P) : ∃ R, FX4_followersOf B (nI t) = some R ∧ ∀ i, i < 32 → bt R i = decide (i < pn P ∧ bhd P t i) := by
  have hn := hP.1
  obtain ⟨hm, -, -, -, hp⟩ := hP.2.1 t ht
  have hc := cn_le hP (pm P t)
  have loop : ∀ S, FX4_followersOf_37 B fu (nI t) S (0 : Int32) = some (bfold (fun i => decide (pa P i = t)) (pn P) S) := by
    intro S
    refine loop_fold (fun fuel i a => FX4_followersOf_37 B fuel (nI t) a (nI i)) (pn P) _ (fun a => some a) (fun k s => ?_) (fun k i s hi => ?_) (fu_gt (show pn P < 100000 by omega))
    · show FX4_followersOf_37s B _ _ _ _ = _
      unfold FX4_followersOf_37s
      rw [hB.1, le_nI (by omega) (by omega), if_pos (Nat.le_refl _)]
    · show FX4_followersOf_37s B (FX4_followersOf_37 B k) _ _ _ = _
      unfold FX4_followersOf_37s
      rw [hB.1, le_nI (by omega) (by omega), if_neg (by omega), ld_nI (by omega) (by decide), (hB.2.1 i hi).2.2, lt1_eq, lt1_eq, nI_1, lt1_eq]
      have e := aI_eq hn (pa_or hP hi) ht
      by_cases c : aI (pa P i) = nI t
      · rw [if_pos c, if_pos (decide_eq_true (e.mp c))]
      · rw [if_neg c, if_neg (by simpa using fun q => c (e.mpr q))]
  have ro := ra_or hn (pm P t) (pp P t + 1)
  have run : FX4_followersOf B (nI t) = some (bfold (fun i => decide (pa P i = t)) (pn P) (if ra P (pm P t) (pp P t + 1) < 24 then (1 : Int32) <<< (nI (ra P (pm P t) (pp P t + 1)) &&& 31) else 0)) := by
    unfold FX4_followersOf
    rw [ld_nI (by omega) (by decide), (hB.2.1 t ht).1, p_placeOf hP hB ht, c1_eq, nI_1, p_inRow hP hB hm (by omega), c1_eq, p_has_aI hB.1 hn ro, c1_eq, ite_bool]
    by_cases c : ra P (pm P t) (pp P t + 1) < 24
    · rw [if_pos c, if_pos c, lt1_eq, loop, aI_lt c]
    · rw [if_neg c, if_neg c, loop]
  refine ⟨_, run, fun i hi => ?_⟩
  rw [bt_bfold hn hi]
  have e1 : bt (if ra P (pm P t) (pp P t + 1) < 24 then (1 : Int32) <<< (nI (ra P (pm P t) (pp P t + 1)) &&& 31) else 0) i = decide (i < pn P ∧ pm P i = pm P t ∧ pp P i = pp P t + 1) := by
    by_cases c : ra P (pm P t) (pp P t + 1) < 24
    · rw [if_pos c, bt_one (by omega) hi]
      obtain ⟨r1, r2, r3⟩ := ra_lt c hn
      by_cases e : i = ra P (pm P t) (pp P t + 1)
      · rw [decide_eq_true e, decide_eq_true (by rw [e]; exact ⟨r1, r2, r3⟩)]
      · rw [decide_eq_false e, decide_eq_false (fun q => e ((ra_iff hP q.1).mpr q.2).symm)]
    · rw [if_neg c, b_0, decide_eq_false (fun q => c (by rw [(ra_iff hP q.1).mpr q.2]; omega))]
  rw [e1]
  by_cases c1 : i < pn P
  · by_cases c2 : pm P i = pm P t ∧ pp P i = pp P t + 1
    · rw [decide_eq_true (show i < pn P ∧ pm P i = pm P t ∧ pp P i = pp P t + 1 from ⟨c1, c2⟩), decide_eq_true (show i < pn P ∧ bhd P t i from ⟨c1, Or.inl c2⟩)]; rfl
    · rw [decide_eq_false (fun q => c2 q.2), decide_eq_true c1]
      by_cases c3 : pa P i = t
      · rw [decide_eq_true c3, decide_eq_true (show i < pn P ∧ bhd P t i from ⟨c1, Or.inr c3⟩)]; rfl
      · rw [decide_eq_false c3, decide_eq_false (fun q : i < pn P ∧ bhd P t i => q.2.elim c2 c3)]; rfl
  · rw [decide_eq_false (fun q => c1 q.1), decide_eq_false c1, decide_eq_false (fun q : i < pn P ∧ bhd P t i => c1 q.1)]; rfl
theorem q_behind {Z : Blk} {P : PD} (hP : Pln P) (hz : ZPl (Z 1) P) {t : Nat} (ht : t < pn P) : ∃ R, FX6_behind Z (nI t) = some R ∧ ∀ i, i < 32 → bt R i = decide (i < pn P ∧ bhd P t i) := by
  have hn := hP.1
  obtain ⟨x1, x2, x3, x4⟩ := hz.2 t ht
  obtain ⟨hm, -, -, -, hp⟩ := hP.2.1 t ht
  have hc := cn_le hP (pm P t)
  have loop : FX6_behind Z (nI t) = some (bfold (fun i => decide (bhd P t i)) (pn P) 0) := by
    refine loop_fold (fun fuel i a => FX6_behind_4 Z fuel (nI t) a (nI i)) (pn P) _ (fun a => some a) (fun k s => ?_) (fun k i s hi => ?_) (fu_gt (show pn P < 100000 by omega))
    · show FX6_behind_4s Z _ _ _ _ = _
      unfold FX6_behind_4s
      rw [k0, ld_nI (by decide) (by decide), hz.1, le_nI (by omega) (by omega), if_pos (Nat.le_refl _)]
    · show FX6_behind_4s Z (FX6_behind_4 Z k) _ _ _ = _
      obtain ⟨y1, y2, y3, y4⟩ := hz.2 i hi
      obtain ⟨hm2, -, -, -, hp2⟩ := hP.2.1 i hi
      have hc2 := cn_le hP (pm P i)
      have e := aI_eq hn (pa_or hP hi) ht
      have e84 : FX6_behind_84 Z (FX6_behind_4 Z k) (nI t) (nI i) s = FX6_behind_4 Z k (nI t) (s ||| ((1 : Int32) <<< (nI i &&& 31))) (nI (i + 1)) := by
        unfold FX6_behind_84 FX6_behind_91
        rw [lt1_eq, nI_1, lt1_eq]
      have e91 : FX6_behind_91 Z (FX6_behind_4 Z k) (nI t) (nI i) 0 s = FX6_behind_4 Z k (nI t) s (nI (i + 1)) := by
        unfold FX6_behind_91
        rw [lt1_eq, nI_1, lt1_eq, show s ||| 0 = s from b_ext (fun i _ => by rw [b_or, b_0, Bool.or_false])]
      have e62 : FX6_behind_63 Z (FX6_behind_4 Z k) (nI t) s (nI i) 0 = if pa P i = t then FX6_behind_4 Z k (nI t) (s ||| ((1 : Int32) <<< (nI i &&& 31))) (nI (i + 1)) else FX6_behind_4 Z k (nI t) s (nI (i + 1)) := by
        unfold FX6_behind_63
        rw [if_pos rfl, k100, nI_add, ld_nI (by omega) (by decide), y4, e84, e91]
        by_cases c : aI (pa P i) = nI t
        · rw [if_pos c, if_pos (e.mp c)]
        · rw [if_neg c, if_neg (fun q => c (e.mpr q))]
      have e63 : FX6_behind_63 Z (FX6_behind_4 Z k) (nI t) s (nI i) 1 = FX6_behind_4 Z k (nI t) (s ||| ((1 : Int32) <<< (nI i &&& 31))) (nI (i + 1)) := by
        unfold FX6_behind_63
        rw [if_neg (show ¬ (1 : Int32) = 0 by decide), e84]
      unfold FX6_behind_4s FX6_behind_62
      rw [e62, e63, k0, ld_nI (by decide) (by decide), hz.1, le_nI (by omega) (by omega), if_neg (by omega), k4, nI_add, nI_add, ld_nI (by omega) (by decide), ld_nI (by omega) (by decide), x1, y1, eq_nI (by omega) (by omega), k172, nI_add, nI_add, ld_nI (by omega) (by decide), ld_nI (by omega) (by decide), x3, y3, nI_1, eq_nI (by omega) (by omega)]
      by_cases c1 : pm P i = pm P t
      · rw [if_pos c1]
        by_cases c2 : pp P i = pp P t + 1
        · rw [if_pos c2, if_pos (decide_eq_true (show bhd P t i from Or.inl ⟨c1, c2⟩))]
        · rw [if_neg c2]
          by_cases c3 : pa P i = t
          · rw [if_pos c3, if_pos (decide_eq_true (show bhd P t i from Or.inr c3))]
          · rw [if_neg c3, if_neg (by simpa using fun q : bhd P t i => q.elim (fun q => c2 q.2) c3)]
      · rw [if_neg c1]
        by_cases c3 : pa P i = t
        · rw [if_pos c3, if_pos (decide_eq_true (show bhd P t i from Or.inr c3))]
        · rw [if_neg c3, if_neg (by simpa using fun q : bhd P t i => q.elim (fun q => c1 q.1) c3)]
  refine ⟨_, loop, fun i hi => ?_⟩
  rw [bt_bfold hn hi, b_0, Bool.false_or]
  by_cases c1 : i < pn P
  · by_cases c2 : bhd P t i
    · rw [decide_eq_true c1, decide_eq_true c2, decide_eq_true (show i < pn P ∧ bhd P t i from ⟨c1, c2⟩)]; rfl
    · rw [decide_eq_true c1, decide_eq_false c2, decide_eq_false (fun q : i < pn P ∧ bhd P t i => c2 q.2)]; rfl
  · rw [decide_eq_false c1, decide_eq_false (fun q : i < pn P ∧ bhd P t i => c1 q.1)]; rfl
