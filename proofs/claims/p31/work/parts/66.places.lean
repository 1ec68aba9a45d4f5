/-! the law's places(), and bestPlace -/
theorem fr_cg {P P' : PD} (hn : pn P' = pn P) (h : ∀ u, u < pn P → pm P' u = pm P u ∧ pp P' u = pp P u) {u : Nat} (hu : u < pn P) : fr P' u = fr P u := by
  unfold fr ra
  rw [(h u hu).2, (h u hu).1, hn, rowAt_congr (f := pm P') (g := pm P) (p := pp P') (q := pp P) h]
theorem ends_cg {P P' : PD} {d E : Nat → Nat} (hn : pn P' = pn P) (h : ∀ u, u < pn P → pm P' u = pm P u ∧ pp P' u = pp P u) (ha : ∀ u, u < pn P → pa P' u = pa P u) (hE : Ends P d E) : Ends P' d E := by
  intro u hu
  rw [hn] at hu
  rw [fr_cg hn h hu, ha u hu]
  exact hE u hu
theorem topo_cg {P P' : PD} {o : Nat → Nat} (hn : pn P' = pn P) (h : ∀ u, u < pn P → pm P' u = pm P u ∧ pp P' u = pp P u) (ha : ∀ u, u < pn P → pa P' u = pa P u) (ho : Topo P o) : Topo P' o := by
  obtain ⟨h1, h2, h3, h4⟩ := ho
  unfold Topo
  rw [hn]
  refine ⟨h1, h2, h3, fun i hi => ?_⟩
  rw [fr_cg hn h (h1 i hi), ha _ (h1 i hi)]
  exact h4 i hi
noncomputable def okv (P : PD) (y : Nat → Nat) (t p : Nat) : Option Nat := @dite (Option Nat) (∃ E o, Ends (mv P t p) (pd P) E ∧ Topo (mv P t p) o) (Classical.propDecidable _) (fun h => some (sumN (fun u => h.choose u - y (52 + u)) (pn P))) (fun _ => none)
theorem okv_some {P : PD} {y E o : Nat → Nat} {t p : Nat} (h1 : Ends (mv P t p) (pd P) E) (h2 : Topo (mv P t p) o) : okv P y t p = some (sumN (fun u => E u - y (52 + u)) (pn P)) := by
  have h : ∃ E o, Ends (mv P t p) (pd P) E ∧ Topo (mv P t p) o := ⟨E, o, h1, h2⟩
  unfold okv
  rw [dif_pos h]
  refine congrArg some (sumN_congr fun u hu => ?_)
  rw [ends_uniq h2 h.choose_spec.choose_spec.1 h1 u hu]
theorem okv_none {P : PD} {y : Nat → Nat} {t p : Nat} (hP : Pln (mv P t p)) (h : ∀ rk, ¬ Rank (mv P t p) rk) : okv P y t p = none := by
  unfold okv
  rw [dif_neg]
  rintro ⟨E, o, h1, -⟩
  exact h E (ends_rank hP (fun u hu => (hP.2.1 u hu).2.1) h1)
def bpF (v : Nat → Option Nat) : Nat → Option (Nat × Nat)
  | 0 => none
  | p + 1 => match v p with
    | none => bpF v p
    | some x => match bpF v p with
      | none => some (p, x)
      | some (b, w) => if x < w then some (p, x) else some (b, w)
theorem bpF_none {v : Nat → Option Nat} {p : Nat} (h : v p = none) : bpF v (p + 1) = bpF v p := by rw [bpF, h]
theorem bpF_first {v : Nat → Option Nat} {p x : Nat} (h : v p = some x) (h2 : bpF v p = none) : bpF v (p + 1) = some (p, x) := by rw [bpF, h, h2]
theorem bpF_next {v : Nat → Option Nat} {p x b w : Nat} (h : v p = some x) (h2 : bpF v p = some (b, w)) : bpF v (p + 1) = if x < w then some (p, x) else some (b, w) := by rw [bpF, h, h2]
theorem bpF_some {v : Nat → Option Nat} {p q : Nat} (hq : q < p) (h : v q ≠ none) : bpF v p ≠ none := by
  induction p with
  | zero => omega
  | succ p ih =>
    cases hv : v p with
    | none =>
      rw [bpF_none hv]
      refine ih ?_
      rcases Nat.lt_or_ge q p with w | w
      · exact w
      · have : q = p := by omega
        subst this; exact absurd hv h
    | some x =>
      cases hb : bpF v p with
      | none => rw [bpF_first hv hb]; exact fun q => by cases q
      | some bw =>
        obtain ⟨b, w⟩ := bw
        rw [bpF_next hv hb]
        split <;> exact fun q => by cases q
theorem bpF_spec {v : Nat → Option Nat} {p b w : Nat} (h : bpF v p = some (b, w)) : b < p ∧ v b = some w := by
  induction p with
  | zero => cases h
  | succ p ih =>
    cases hv : v p with
    | none =>
      rw [bpF_none hv] at h
      exact ⟨by have := (ih h).1; omega, (ih h).2⟩
    | some x =>
      cases hb : bpF v p with
      | none =>
        rw [bpF_first hv hb] at h
        cases h
        exact ⟨by omega, hv⟩
      | some bw =>
        obtain ⟨b', w'⟩ := bw
        rw [bpF_next hv hb] at h
        by_cases c : x < w'
        · rw [if_pos c] at h
          cases h
          exact ⟨by omega, hv⟩
        · rw [if_neg c] at h
          cases h
          exact ⟨by have := (ih hb).1; omega, (ih hb).2⟩
theorem sum_le {f : Nat → Nat} {n b : Nat} (h : ∀ u, u < n → f u ≤ b) : sumN f n ≤ b * n := by
  induction n with
  | zero => exact Nat.zero_le _
  | succ n ih =>
    have := ih (fun u hu => h u (by omega))
    have := h n (by omega)
    rw [sumN, Nat.mul_succ]
    omega
theorem late_lt {P : PD} {E o y : Nat → Nat} (hn : pn P ≤ 24) (hP : Pln P) (hE : Ends P (pd P) E) (ho : Topo P o) : sumN (fun u => E u - y (52 + u)) (pn P) < 2 ^ 31 := by
  have := sum_le (f := fun u => E u - y (52 + u)) (n := pn P) (b := 2400) (fun u hu => by
    have : E u ≤ 100 * 24 := ends_bound hn ho hE (fun v hv => (hP.2.1 v hv).2.2.1) hu
    show E u - y (52 + u) ≤ 2400
    omega)
  omega
theorem okv_lt {P : PD} {y : Nat → Nat} {t p w : Nat} (hn : pn P ≤ 24) (hP : Pln (mv P t p)) (h : okv P y t p = some w) : w < 2 ^ 31 := by
  unfold okv at h
  by_cases c : ∃ E o, Ends (mv P t p) (pd P) E ∧ Topo (mv P t p) o
  · rw [dif_pos c] at h
    rw [← Option.some.inj h]
    exact late_lt (P := mv P t p) hn hP c.choose_spec.choose_spec.1 c.choose_spec.choose_spec.2
  · rw [dif_neg c] at h
    cases h
def bpA (d : Int32) (r : Option (Nat × Nat)) : Int32 × Int32 := match r with
  | none => (d, 0)
  | some (b, w) => (nI b, nI w)
theorem sch_of {B : Blk} {P : PD} {y : Nat → Nat} (hP : Pln P) (hB : BPl B P) (hY : BY B (pn P) y) (hy : YB (pn P) y) : ∃ B' : Blk, (∀ o, o ≠ 6 → o ≠ 7 → o ≠ 10 → B' o = B o) ∧ BPl B' P ∧ BY B' (pn P) y ∧ ((FX4_schedule B = some (1, B') ∧ ∃ E o, Ends P (pd P) E ∧ Topo P o ∧ StB B' P E o y) ∨ (FX4_schedule B = some (0, B') ∧ ∀ rk, ¬ Rank P rk)) := by
  obtain ⟨B', f, h⟩ := p_schedule hP hB
  have hb := BPl_frame f hB
  have hBY : BY B' (pn P) y := by
    obtain ⟨b1, b2, b3, b4, b5⟩ := hY
    unfold BY
    rw [f 0 (by omega) (by omega) (by omega), f 2 (by omega) (by omega) (by omega), f 16 (by omega) (by omega) (by omega), f 17 (by omega) (by omega) (by omega), f 18 (by omega) (by omega) (by omega), f 19 (by omega) (by omega) (by omega), f 12 (by omega) (by omega) (by omega), f 13 (by omega) (by omega) (by omega), f 14 (by omega) (by omega) (by omega), f 15 (by omega) (by omega) (by omega)]
    exact ⟨b1, b2, b3, b4, b5⟩
  refine ⟨B', f, hb, hBY, ?_⟩
  rcases h with ⟨h1, E, od, h2, h3, h4, h5⟩ | h1
  · exact Or.inl ⟨h1, E, od, h2, h3, StB.plan (B := B) hP hb h2 h3 h4 h5 hBY hy⟩
  · exact Or.inr h1
theorem BY_cg {B B' : Blk} {n : Nat} {y : Nat → Nat} (h : BY B n y) (f : ∀ o, o = 0 ∨ o = 2 ∨ (12 ≤ o ∧ o ≤ 19) → B' o = B o) : BY B' n y := by
  obtain ⟨b1, b2, b3, b4, b5⟩ := h
  unfold BY
  rw [f 0 (by omega), f 2 (by omega), f 16 (by omega), f 17 (by omega), f 18 (by omega), f 19 (by omega), f 12 (by omega), f 13 (by omega), f 14 (by omega), f 15 (by omega)]
  exact ⟨b1, b2, b3, b4, b5⟩
/-- the class's own search -/
theorem best_loop {P : PD} {y : Nat → Nat} {t : Nat} (hP : Pln P) (ht : t < pn P) (hy : YB (pn P) y) : ∀ d q fuel B a, q + d = cn P (pm P t) → d < fuel → a < cn P (pm P t) → BPl B (mv P t a) → BY B (pn P) y → ∃ B', FX2_findBestPlace_8 fuel (nI t) (bpA (-6) (bpF (okv P y t) q)).1 (bpA (-6) (bpF (okv P y t) q)).2 (nI q) B = some ((bpA (-6) (bpF (okv P y t) (cn P (pm P t)))).1, B') := by
  have hn := hP.1
  have hm := (hP.2.1 t ht).1
  have hc := cn_le hP (pm P t)
  intro d
  induction d with
  | zero =>
    intro q fuel B a hq hf ha hB hY
    obtain ⟨k, rfl⟩ : ∃ k, fuel = k + 1 := ⟨fuel - 1, by omega⟩
    have e : q = cn P (pm P t) := by omega
    refine ⟨B, ?_⟩
    show FX2_findBestPlace_8s _ _ _ _ _ _ = _
    unfold FX2_findBestPlace_8s
    have h3 : B 3 t = nI (pm P t) := (hB.2.1 t ht).1
    have h9 : B 9 (pm P t) = nI (cn P (pm P t)) := hB.2.2.1 _ hm
    rw [ld_nI (by omega) (by decide), h3, ld_nI hm (by decide), h9, le_nI (by omega) (by omega), if_pos (by omega), e]
  | succ d ih =>
    intro q fuel B a hq hf ha hB hY
    obtain ⟨k, rfl⟩ : ∃ k, fuel = k + 1 := ⟨fuel - 1, by omega⟩
    have hqc : q < cn P (pm P t) := by omega
    have hPa := mv_pln hP ht ha
    obtain ⟨B1, s1, s2, s3⟩ := p_shift hPa hB (t := t) (q := q) ht hqc
    have s3' : BPl B1 (mv P t q) := BPl_congr (P := mv (mv P t a) t q) (P' := mv P t q) rfl (fun u hu => ⟨rfl, mv_mv hP ht ha u hu, rfl, rfl⟩) s3
    have hPq := mv_pln hP ht hqc
    have hY1 : BY B1 (pn P) y := BY_cg hY (fun o ho => s2 o (by omega))
    obtain ⟨B2, f1, f2, f3, f4⟩ := sch_of (P := mv P t q) hPq s3' hY1 hy
    have h3 : B 3 t = nI (pm P t) := (hB.2.1 t ht).1
    have h9 : B 9 (pm P t) = nI (cn P (pm P t)) := hB.2.2.1 _ hm
    have nx := ih (q + 1) k B2 q (by omega) (by omega) hqc f2 f3
    show ∃ B', FX2_findBestPlace_8s (FX2_findBestPlace_8 k) _ _ _ _ _ = _
    unfold FX2_findBestPlace_8s FX2_findBestPlace_64
    rw [ld_nI (by omega) (by decide), h3, ld_nI hm (by decide), h9, le_nI (by omega) (by omega), if_neg (by omega), s1, c1_eq]
    rcases f4 with ⟨g1, E', o', g2, g3, g4⟩ | ⟨g1, g2⟩
    · have hv := okv_some (y := y) g2 g3
      have hl := p_lateTogether g4.1 g4.DU
      have hlb : sumN (fun u => E' u - y (52 + u)) (pn P) < 2 ^ 31 := late_lt (P := mv P t q) hn hPq g2 g3
      have hl' : FX2_lateTogether B2 = some (nI (sumN (fun u => E' u - y (52 + u)) (pn P))) := hl
      obtain ⟨v, hvv⟩ : ∃ v, sumN (fun u => E' u - y (52 + u)) (pn P) = v := ⟨_, rfl⟩
      rw [hvv] at hv hl' hlb
      rw [g1, c2_eq, hl', c1_eq, c1_eq, lt1_eq, nI_1, lt1_eq, if_neg (show ¬ (1 : Int32) = 0 by decide)]
      cases hb : bpF (okv P y t) q with
      | none =>
        rw [bpF_first hv hb] at nx
        rw [show bpA (-6) none = (-6, 0) from rfl, if_pos rfl]
        exact nx
      | some bw =>
        obtain ⟨b, w⟩ := bw
        have hbw : b < 2 ^ 31 ∧ w < 2 ^ 31 := by
          obtain ⟨e1, e2⟩ := bpF_spec hb
          exact ⟨by omega, okv_lt hn (mv_pln hP ht (by omega)) e2⟩
        rw [bpF_next hv hb] at nx
        rw [show bpA (-6) (some (b, w)) = (nI b, nI w) from rfl, if_neg (m6_ne hbw.1), le_nI hbw.2 hlb]
        by_cases c : w ≤ v
        · rw [if_pos c]
          rw [if_neg (by omega)] at nx
          exact nx
        · rw [if_neg c]
          rw [if_pos (by omega)] at nx
          exact nx
    · rw [bpF_none (okv_none hPq g2)] at nx
      rw [g1, c2_eq, if_pos rfl, lt1_eq, nI_1]
      exact nx
theorem l_bestPlace {M : Mem} {P : PD} {E o y : Nat → Nat} (h : StB (M 0) P E o y) {t : Nat} (ht : t < pn P) : ∃ M' : Mem, FX5_bestPlace M (nI t) = some ((bpA (-6) (bpF (okv P y t) (cn P (pm P t)))).1, M') ∧ ∀ i, i ≠ 1 → M' i = M i := by
  have hn := h.n
  obtain ⟨B1, c1', c2'⟩ := p_copyFrom (M 1) (M 0)
  have h1 : StB B1 P E o y := h.eqb c2'
  have hp := (h.pl.2.1 t ht).2.2.2.2
  have hb : BPl B1 (mv P t (pp P t)) := BPl_congr (P := P) (P' := mv P t (pp P t)) rfl (fun u hu => ⟨rfl, (mv_id h.pl ht u hu).symm, rfl, rfl⟩) h1.bp
  obtain ⟨B', b1⟩ := best_loop (y := y) h.pl ht h.2 (cn P (pm P t)) 0 fu B1 (pp P t) (by omega) (fu_gt (by have := cn_le h.pl (pm P t); omega)) hp hb h1.by
  have b2 : FX2_findBestPlace B1 (nI t) = some ((bpA (-6) (bpF (okv P y t) (cn P (pm P t)))).1, B') := b1
  refine ⟨jb (jb M 1 B1) 1 B', ?_, fun i hi => by rw [jb_ne hi, jb_ne hi]⟩
  unfold FX5_bestPlace
  rw [p_has_nI h.bp.1 hn ht, c1_eq, if_neg (show ¬ (1 : Int32) = 0 by decide), c1', c1_eq, lt1_eq, jb_at, b2, c2_eq, lt1_eq]
theorem b_moveN {B : Blk} {P : PD} {E o y : Nat → Nat} (h : StB B P E o y) {t : Nat} (ht : t < pn P) : FX2_moveTask B (nI t) (nI (cn P (pm P t))) = some (-1, B) := by
  have hn := h.n
  have hm := (h.pl.2.1 t ht).1
  have hc := cn_le h.pl (pm P t)
  unfold FX2_moveTask
  rw [p_has_nI h.bp.1 hn ht, c1_eq, if_neg (show ¬ (1 : Int32) = 0 by decide), if_neg (nneg (by omega)), ld_nI (by omega) (by decide), (h.bp.2.1 t ht).1, ld_nI hm (by decide), h.bp.2.2.1 _ hm, lt_nI (by omega) (by omega), if_neg (by omega)]
theorem b_move {B : Blk} {P : PD} {E o y : Nat → Nat} (h : StB B P E o y) {t q : Nat} (ht : t < pn P) (hq : q < cn P (pm P t)) : ∃ B' : Blk, (FX2_moveTask B (nI t) (nI q) = some (nI (pp P t), B') ∧ ∃ E' o', Ends (mv P t q) (pd P) E' ∧ Topo (mv P t q) o' ∧ StB B' (mv P t q) E' o' y) ∨ (FX2_moveTask B (nI t) (nI q) = some (-5, B') ∧ (∃ E' o', StB B' P E' o' y) ∧ ∀ rk, ¬ Rank (mv P t q) rk) := by
  have hn := h.n
  have hP := h.pl
  obtain ⟨hm, -, -, -, hp⟩ := hP.2.1 t ht
  have hc := cn_le hP (pm P t)
  have hPq := mv_pln hP ht hq
  obtain ⟨B1, s1, s2, s3⟩ := p_shift hP h.bp (t := t) (q := q) ht hq
  have hY1 : BY B1 (pn P) y := BY_cg h.by (fun o ho => s2 o (by omega))
  obtain ⟨B2, f1, f2, f3, f4⟩ := sch_of (P := mv P t q) hPq s3 hY1 h.2
  have st : FX2_moveTask B (nI t) (nI q) = c2 (FX4_schedule B1) fun r17 B19 => if r17 = 0 then c1 (FX4_shift B19 (nI t) (nI (pp P t))) fun B23 => c2 (FX4_schedule B23) fun r24 B26 => some ((-5 : Int32), B26) else some (nI (pp P t), B19) := by
    unfold FX2_moveTask
    rw [p_has_nI h.bp.1 hn ht, c1_eq, if_neg (show ¬ (1 : Int32) = 0 by decide), if_neg (nneg (by omega)), ld_nI (by omega) (by decide), (h.bp.2.1 t ht).1, ld_nI hm (by decide), h.bp.2.2.1 _ hm, lt_nI (by omega) (by omega), if_pos hq, p_placeOf hP h.bp ht, c1_eq, s1, c1_eq]
  rw [st]
  rcases f4 with ⟨g1, E', o', g2, g3, g4⟩ | ⟨g1, g2⟩
  · rw [g1, c2_eq, if_neg (show ¬ (1 : Int32) = 0 by decide)]
    exact ⟨B2, Or.inl ⟨rfl, E', o', g2, g3, g4⟩⟩
  · rw [g1, c2_eq, if_pos rfl]
    have hpt : pp P t < cn (mv P t q) (pm (mv P t q) t) := hp
    obtain ⟨B3, w1, w2, w3⟩ := p_shift hPq f2 (t := t) (q := pp P t) ht hpt
    have bk := mv_back hP ht hq
    have b3 : BPl B3 P := BPl_congr (P := mv (mv P t q) t (pp P t)) (P' := P) rfl (fun u hu => ⟨rfl, bk u hu, rfl, rfl⟩) w3
    have hY3 : BY B3 (pn P) y := BY_cg f3 (fun o ho => w2 o (by omega))
    obtain ⟨B4, -, -, -, v4⟩ := sch_of hP b3 hY3 h.2
    rcases v4 with ⟨x1, E', o', -, -, x4⟩ | ⟨-, x2⟩
    · rw [w1, c1_eq, x1, c2_eq]
      exact ⟨B4, Or.inr ⟨rfl, ⟨E', o', x4⟩, g2⟩⟩
    · exact absurd (ends_rank hP (fun u hu => (hP.2.1 u hu).2.1) h.en) (x2 E)
theorem l_move {M : Mem} (hS : HS M) {a b r : Int32} {B' : Blk} (hx : FX2_moveTask (M 0) a b = some (r, B')) : ∃ M' : Mem, FX5_move M a b = some (r, M') ∧ M' 0 = B' ∧ HS M' ∧ (0 ≤ r → Und M' (M 0)) := by
  obtain ⟨M', m1, m2, -, m3, m4⟩ := ch_step hS (fc := fun B => FX2_moveTask B a b) hx
  exact ⟨M', m1, m2, m3, m4⟩
theorem places_loop {P : PD} {y : Nat → Nat} {t : Nat} (ht : t < pn P) : ∀ d q fuel M, q + d = cn P (pm P t) → d < fuel → (∃ E o, StB (M 0) P E o y) → HS M → ∃ M' : Mem, FL_places_30 fuel (nI t) (nI (cn P (pm P t))) (nI (pp P t)) (bpA (-1) (bpF (okv P y t) q)).1 (bpA (-1) (bpF (okv P y t) q)).2 (nI q) M = some (1, M') ∧ (∃ E o, StB (M' 0) P E o y) ∧ HS M' := by
  intro d
  induction d with
  | zero =>
    intro q fuel M hq hf hh hS
    obtain ⟨E, o, h⟩ := hh
    have hn := h.n
    have hc := cn_le h.pl (pm P t)
    obtain ⟨-, -, -, -, hp⟩ := h.pl.2.1 t ht
    obtain ⟨k, rfl⟩ : ∃ k, fuel = k + 1 := ⟨fuel - 1, by omega⟩
    have e : q = cn P (pm P t) := by omega
    rw [e]
    obtain ⟨M1, b1, b2⟩ := l_bestPlace h ht
    have h1 : StB (M1 0) P E o y := by rw [b2 0 (by decide)]; exact h
    have hS1 : HS M1 := by
      obtain ⟨f, k, w1, w2, w3, w4⟩ := hS
      exact ⟨f, k, w1, w2, by rw [b2 11 (by decide)]; exact w3, by rw [b2 11 (by decide)]; exact w4⟩
    obtain ⟨M2, m1, m2, m3, -⟩ := l_move hS1 (b_moveN h1 ht)
    have h2 : StB (M2 0) P E o y := by rw [m2]; exact h1
    refine ⟨M2, ?_, ⟨E, o, h2⟩, m3⟩
    have own : okv P y t (pp P t) ≠ none := by
      have id := mv_id h.pl ht
      rw [okv_some (P := P) (y := y) (t := t) (p := pp P t) (ends_cg (P := P) (P' := mv P t (pp P t)) rfl (fun u hu => ⟨rfl, id u hu⟩) (fun _ _ => rfl) h.en) (topo_cg (P := P) (P' := mv P t (pp P t)) rfl (fun u hu => ⟨rfl, id u hu⟩) (fun _ _ => rfl) h.tp)]
      exact fun q => by cases q
    have hb := bpF_some hp own
    show FL_places_30s _ _ _ _ _ _ _ _ = _
    unfold FL_places_30s
    rw [le_nI (by omega) (by omega), if_pos (Nat.le_refl _), b1, c2_eq]
    cases hc2 : bpF (okv P y t) (cn P (pm P t)) with
    | none => exact absurd hc2 hb
    | some bw =>
      obtain ⟨b, w⟩ := bw
      rw [show bpA (-6) (some (b, w)) = (nI b, nI w) from rfl, show bpA (-1) (some (b, w)) = (nI b, nI w) from rfl]
      rw [if_pos rfl, m1, c2_eq, if_pos rfl, o3 h2 ht, c2_eq, if_pos rfl]
  | succ d ih =>
    intro q fuel M hq hf hh hS
    obtain ⟨E, o, h⟩ := hh
    have hn := h.n
    have hc := cn_le h.pl (pm P t)
    obtain ⟨-, -, -, -, hp⟩ := h.pl.2.1 t ht
    obtain ⟨k, rfl⟩ : ∃ k, fuel = k + 1 := ⟨fuel - 1, by omega⟩
    have hqc : q < cn P (pm P t) := by omega
    show ∃ M', FL_places_30s (FL_places_30 k) _ _ _ _ _ _ _ = _ ∧ _
    unfold FL_places_30s FL_places_110
    rw [le_nI (by omega) (by omega), if_neg (by omega)]
    obtain ⟨B', hB⟩ := b_move h ht hqc
    rcases hB with ⟨x1, E', o', x2, x3, x4⟩ | ⟨x1, ⟨E', o', x2⟩, x3⟩
    · obtain ⟨M1, m1, m2, m3, m4⟩ := l_move hS x1
      have h1 : StB (M1 0) (mv P t q) E' o' y := by rw [m2]; exact x4
      obtain ⟨M2, k', u1, u2, u3, u4, -⟩ := l_undo (m4 (nI_pos' (by omega)))
      have h2 : StB (M2 0) P E o y := h.eqb u3
      have nx := ih (q + 1) k M2 (by omega) (by omega) ⟨E, o, h2⟩ u4
      have hv := okv_some (y := y) x2 x3
      have hlb : sumN (fun u => E' u - y (52 + u)) (pn P) < 2 ^ 31 := late_lt (P := mv P t q) hn x4.pl x2 x3
      have c4 := n4 h1
      rw [show pn (mv P t q) = pn P from rfl] at c4
      have c3 : FX5_ofTask M1 (nI t) (3 : Int32) = some (nI q, M1) := by
        have := o3 h1 (t := t) ht
        rw [show pp (mv P t q) t = q from mvp_t P t q] at this
        exact this
      obtain ⟨v, hvv⟩ : ∃ v, sumN (fun u => E' u - y (52 + u)) (pn P) = v := ⟨_, rfl⟩
      rw [hvv] at hv hlb c4
      rw [m1, c2_eq, if_pos (nI_pos' (by omega)), c4, c1_eq, if_pos rfl, c3, c2_eq, if_pos rfl, u2, c2_eq, if_pos (nI_pos' (by omega)), lt1_eq, nI_1]
      cases hb : bpF (okv P y t) q with
      | none =>
        rw [bpF_first hv hb] at nx
        rw [show bpA (-1) none = (-1, 0) from rfl, if_pos (show (-1 : Int32) < 0 by decide)]
        exact nx
      | some bw =>
        obtain ⟨b, w⟩ := bw
        obtain ⟨e1, e2⟩ := bpF_spec hb
        have hw := okv_lt hn (mv_pln h.pl ht (by omega)) e2
        rw [bpF_next hv hb] at nx
        rw [show bpA (-1) (some (b, w)) = (nI b, nI w) from rfl, if_neg (nneg (by omega)), le_nI hw hlb]
        by_cases c : w ≤ v
        · rw [if_pos c]
          rw [if_neg (by omega)] at nx
          exact nx
        · rw [if_neg c]
          rw [if_pos (by omega)] at nx
          exact nx
    · obtain ⟨M1, m1, m2, m3, m4⟩ := l_move hS x1
      have h1 : StB (M1 0) P E' o' y := by rw [m2]; exact x2
      have nx := ih (q + 1) k M1 (by omega) (by omega) ⟨E', o', h1⟩ m3
      rw [bpF_none (okv_none (mv_pln h.pl ht hqc) x3)] at nx
      have hne : ¬ q = pp P t := by
        intro e
        subst e
        have id := mv_id h.pl ht
        exact x3 E (ends_rank (d := pd P) (mv_pln h.pl ht hqc) (fun u hu => (h.pl.2.1 u hu).2.1) (ends_cg (P := P) (P' := mv P t (pp P t)) rfl (fun u hu => ⟨rfl, id u hu⟩) (fun _ _ => rfl) h.en))
      rw [m1, c2_eq, if_neg (show ¬ (0 : Int32) ≤ -5 by decide), if_pos rfl, eq_nI (by omega) (by omega), if_neg hne, lt1_eq, nI_1]
      exact nx
theorem l_places {M : Mem} {P : PD} {E o y : Nat → Nat} (h : StB (M 0) P E o y) (hS : HS M) {t : Nat} (ht : t < pn P) : ∃ M' : Mem, FL_places M (nI t) = some (1, M') ∧ (∃ E o, StB (M' 0) P E o y) ∧ HS M' := by
  have hm := (h.pl.2.1 t ht).1
  unfold FL_places
  rw [o0 h ht, c2_eq, n_row h hm, c1_eq, o3 h ht, c2_eq]
  exact places_loop ht (cn P (pm P t)) 0 fu M (by omega) (fu_gt (by have := cn_le h.pl (pm P t); omega)) ⟨E, o, h⟩ hS
