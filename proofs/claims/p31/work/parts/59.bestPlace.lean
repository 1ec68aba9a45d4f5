/-! bestPlace -/
theorem mv_mv {Q : PD} (hQ : Pln Q) {t a b : Nat} (ht : t < pn Q) (ha : a < cn Q (pm Q t)) : ∀ u, u < pn Q → mvp (mv Q t a) t b u = mvp Q t b u := by
  intro u hu
  have h3 := hQ.2.2.1
  by_cases c : u = t
  · subst c; rw [mvp_t, mvp_t]
  · by_cases c2 : pm Q u = pm Q t
    · have a1 : pp Q u ≠ pp Q t := fun e => c (h3 u t hu ht c2 e)
      have a2 : pp (mv Q t a) u ≠ pp (mv Q t a) t := fun e => c ((mv_pln hQ ht ha).2.2.1 u t hu ht c2 e)
      have e1 : pp (mv Q t a) u = mvp Q t a u := rfl
      have e2 : pp (mv Q t a) t = a := mvp_t Q t a
      rcases mvp_cases (P := mv Q t a) (q := b) c c2 a2 with ⟨x1, x2, e⟩ | ⟨x1, x2, e⟩ | ⟨x1, x2, e⟩ | ⟨x1, x2, e⟩ <;> rcases mvp_cases (P := Q) (q := a) c c2 a1 with ⟨_, _, e'⟩ | ⟨_, _, e'⟩ | ⟨_, _, e'⟩ | ⟨_, _, e'⟩ <;> rcases mvp_cases (P := Q) (q := b) c c2 a1 with ⟨_, _, e''⟩ | ⟨_, _, e''⟩ | ⟨_, _, e''⟩ | ⟨_, _, e''⟩ <;> omega
    · rw [mvp_o (P := mv Q t a) c2, mvp_o c2]
      show mvp Q t a u = pp Q u
      rw [mvp_o c2]
theorem mv_id {Q : PD} (hQ : Pln Q) {t : Nat} (ht : t < pn Q) : ∀ u, u < pn Q → mvp Q t (pp Q t) u = pp Q u := by
  intro u hu
  by_cases c : u = t
  · subst c; rw [mvp_t]
  · by_cases c2 : pm Q u = pm Q t
    · have a1 : pp Q u ≠ pp Q t := fun e => c (hQ.2.2.1 u t hu ht c2 e)
      rcases mvp_cases (P := Q) (q := pp Q t) c c2 a1 with ⟨x1, x2, e⟩ | ⟨x1, x2, e⟩ | ⟨x1, x2, e⟩ | ⟨x1, x2, e⟩ <;> omega
    · rw [mvp_o c2]
theorem q_late_some {Z : Blk} {n : Nat} (hn : n ≤ 24) (h0 : Z 1 0 = nI n) : ∃ r, FX6_lateTogether Z = some r := by
  have key : ∀ d t fuel a, t + d = n → d < fuel → ∃ r, FX6_lateTogether_4 Z fuel a (nI t) = some r := by
    intro d
    induction d with
    | zero =>
      intro t fuel a ht hf
      obtain ⟨k, rfl⟩ : ∃ k, fuel = k + 1 := ⟨fuel - 1, by omega⟩
      have e : t = n := by omega
      subst e
      refine ⟨a, ?_⟩
      show FX6_lateTogether_4s Z _ _ _ = _
      unfold FX6_lateTogether_4s
      rw [k0, ld_nI (by decide) (by decide), h0, le_nI (by omega) (by omega), if_pos (Nat.le_refl _)]
    | succ d ih =>
      intro t fuel a ht hf
      obtain ⟨k, rfl⟩ : ∃ k, fuel = k + 1 := ⟨fuel - 1, by omega⟩
      show ∃ r, FX6_lateTogether_4s Z (FX6_lateTogether_4 Z k) _ _ = some r
      unfold FX6_lateTogether_4s FX6_late
      rw [k0, ld_nI (by decide) (by decide), h0, le_nI (by omega) (by omega), if_neg (by omega), ld_nI (by omega) (by decide), k52, nI_add, ld_nI (by omega) (by decide), lt1_eq]
      split
      · rw [c1_eq, lt1_eq, lt1_eq, nI_1]; exact ih (t + 1) k _ (by omega) (by omega)
      · rw [c1_eq, lt1_eq, lt1_eq, nI_1]; exact ih (t + 1) k _ (by omega) (by omega)
  exact key n 0 fu 0 (by omega) (fu_gt (by omega))
set_option maxRecDepth 100000 in
theorem w_bestPlace {M : Mem} (h : Rel (M 0) (M 12 1)) (hi : Idle (M 12)) (a : Int32) : WGoal M (FX5_bestPlace M a) (FX6_bestPlace (M 12) a) := by
  have h0 := h
  obtain ⟨P, E, o, hR⟩ := h
  have hn := hR.n
  have hP := hR.1
  have hB := hR.2.2.1
  have hz := hR.2.1
  unfold FX5_bestPlace FX6_bestPlace
  by_cases d0 : inT (pn P) a
  · rw [(p_has hB.1 a).1 d0, (q_isTask hz.1 a).1 d0, c1_eq, c1_eq, if_neg (show ¬ (1 : Int32) = 0 by decide), if_neg (show ¬ (1 : Int32) = 0 by decide)]
    obtain ⟨t, ht, rfl⟩ := inT_of d0 (by omega)
    obtain ⟨du, hD⟩ := hR.du
    obtain ⟨B1, c1', c2'⟩ := p_copyFrom (M 1) (M 0)
    have hR1 := hR.eqb c2'
    obtain ⟨hm, -, -, -, hp⟩ := hP.2.1 t ht
    have hc := cn_le hP (pm P t)
    obtain ⟨y1, y2, y3, y4⟩ := hz.2 t ht
    rw [c1', c1_eq, lt1_eq, jb_at, k172, nI_add, ld_nI (by omega) (by decide), y3, k4, nI_add, ld_nI (by omega) (by decide), y1, q_manyOn hP hz (by omega), c1_eq]
    have loop : ∀ d q fuel fuel' (r l : Int32) (B Z : Blk) (Q : PD), q + d = cn P (pm P t) → d < fuel → d < fuel' → pn Q = pn P → (∀ u, u < pn P → pm Q u = pm P u ∧ pa Q u = pa P u ∧ pd Q u = pd P u ∧ mvp Q t (pp P t) u = pp P u) → (∀ m, cn Q m = cn P m) → Pln Q → BPl B Q → ZPl (Z 1) Q → Rest B (Z 1) (pn P) → (∀ k, k < 172 ∨ 196 ≤ k → Z 1 k = M 12 1 k) → Fz (M 12) Z → ∃ (r' : Int32) (B' Z' : Blk), FX2_findBestPlace_8 fuel (nI t) r l (nI q) B = some (r', B') ∧ FX6_bestPlace_44 fuel' (nI t) (nI (pp P t)) r l (nI (cn P (pm P t))) (nI q) Z = some (r', Z') ∧ Rel (M 0) (Z' 1) ∧ Fz (M 12) Z' := by
      intro d
      induction d with
      | zero =>
        intro q fuel fuel' r l B Z Q hq hf hf' hQn hQ hQc hQP hQB hQZ hRest hlow hfz
        obtain ⟨k, rfl⟩ : ∃ k, fuel = k + 1 := ⟨fuel - 1, by omega⟩
        obtain ⟨k', rfl⟩ : ∃ k, fuel' = k + 1 := ⟨fuel' - 1, by omega⟩
        have htQ : t < pn Q := by rw [hQn]; exact ht
        have eq := hQ t ht
        have e : q = cn P (pm P t) := by omega
        have hpq : pp P t < cn Q (pm Q t) := by rw [hQc, eq.1]; exact hp
        obtain ⟨z3, w1, w2, w3⟩ := q_putAt (Z := Z) hQP hQZ htQ hpq
        have w4 : ZPl z3 P := ZPl_congr (P := mv Q t (pp P t)) (show pn P = pn Q from hQn.symm) (fun u hu => by
          have hu : u < pn Q := hu
          have g := hQ u (by omega)
          exact ⟨g.1, g.2.2.2, g.2.1, g.2.2.1⟩) w2
        have low : ∀ k, k < 172 ∨ 196 ≤ k → z3 k = M 12 1 k := fun k hk => by rw [w3 k hk, hlow k hk]
        refine ⟨r, B, bc Z 1 z3, ?_, ?_, ?_, hfz.trans (Fz.bc (Or.inl rfl))⟩
        · show FX2_findBestPlace_8s _ _ _ _ _ _ = _
          unfold FX2_findBestPlace_8s
          rw [ld_nI (by omega) (by decide), (hQB.2.1 t htQ).1, eq.1, ld_nI hm (by decide), hQB.2.2.1 _ hm, hQc, le_nI (by omega) (by omega), if_pos (by omega)]
        · show FX6_bestPlace_44s _ _ _ _ _ _ _ _ = _
          unfold FX6_bestPlace_44s
          rw [le_nI (by omega) (by omega), if_pos (by omega), w1, c1_eq]
        · rw [bc_at]
          exact ⟨P, E, o, hP, w4, hB, hR.2.2.2.1, hR.2.2.2.2.1, hR.2.2.2.2.2.1, hR.2.2.2.2.2.2.1, Rest_frame hR.2.2.2.2.2.2.2 rfl rfl rfl (fun _ _ _ => rfl) (low 1 (by omega)) (low 2 (by omega)) (low 3 (by omega)) (fun k hk => low k (by omega)) hn⟩
      | succ d ih =>
        intro q fuel fuel' r l B Z Q hq hf hf' hQn hQ hQc hQP hQB hQZ hRest hlow hfz
        obtain ⟨k, rfl⟩ : ∃ k, fuel = k + 1 := ⟨fuel - 1, by omega⟩
        obtain ⟨k', rfl⟩ : ∃ k, fuel' = k + 1 := ⟨fuel' - 1, by omega⟩
        have htQ : t < pn Q := by rw [hQn]; exact ht
        have eq := hQ t ht
        have hqc : q < cn Q (pm Q t) := by rw [hQc, eq.1]; omega
        obtain ⟨B2, s1, s2, s3⟩ := p_shift hQP hQB htQ hqc
        obtain ⟨z2, p1, p2, p3⟩ := q_putAt (Z := Z) hQP hQZ htQ hqc
        have hQ1 := mv_pln hQP htQ hqc
        have i1 : Idle (bc Z 1 z2) := hi.cg (by rw [bc_ne (by omega)]; exact hfz.1)
        obtain ⟨B3, Z3, f1, f2, f3⟩ := plan_both hQ1 s3 (by rw [bc_at]; exact p2) i1
        have z31 : Z3 1 = z2 := by rw [f2 1 (by omega) (by omega), bc_at]
        have fB : ∀ o, o ≠ 6 → o ≠ 7 → o ≠ 8 → o ≠ 10 → B3 o = B o := fun o h6 h7 h8 h10 => by rw [f1 o h6 h7 h10, s2 o h8]
        have rest3 : Rest B3 (Z3 1) (pn P) := by
          rw [z31]
          exact Rest_frame hRest (by rw [fB 0 (by omega) (by omega) (by omega) (by omega)]) (by rw [fB 0 (by omega) (by omega) (by omega) (by omega)]) (by rw [fB 2 (by omega) (by omega) (by omega) (by omega)]) (fun o h1 h2 => fB o (by omega) (by omega) (by omega) (by omega)) (p3 1 (by omega)) (p3 2 (by omega)) (p3 3 (by omega)) (fun k hk => p3 k (by omega)) hn
        have low3 : ∀ k, k < 172 ∨ 196 ≤ k → Z3 1 k = M 12 1 k := fun k hk => by rw [z31, p3 k hk, hlow k hk]
        have fz3 : Fz (M 12) Z3 := (hfz.trans (Fz.bc (Or.inl rfl))).trans (Fz.of78 f2)
        have nx := fun r l => ih (q + 1) k k' r l B3 Z3 (mv Q t q) (by omega) (by omega) (by omega) hQn (fun u hu => ⟨(hQ u hu).1, (hQ u hu).2.1, (hQ u hu).2.2.1, by rw [mv_mv hQP htQ hqc u (by rw [hQn]; exact hu)]; exact (hQ u hu).2.2.2⟩) hQc hQ1 (BPl_frame f1 s3) (by rw [z31]; exact p2) rest3 low3 fz3
        have hD3 : DU (Z3 1) (pn P) du := ⟨fun u hu => by rw [low3 _ (by omega)]; exact hD.1 u hu, hD.2⟩
        have h03 : Z3 1 0 = nI (pn P) := by rw [low3 0 (by omega)]; exact hz.1
        show ∃ (r' : Int32) (B' Z' : Blk), FX2_findBestPlace_8s (FX2_findBestPlace_8 k) _ _ _ _ _ = _ ∧ FX6_bestPlace_44s (FX6_bestPlace_44 k') _ _ _ _ _ _ _ = _ ∧ _
        unfold FX2_findBestPlace_8s FX6_bestPlace_44s
        rw [ld_nI (by omega) (by decide), (hQB.2.1 t htQ).1, eq.1, ld_nI hm (by decide), hQB.2.2.1 _ hm, hQc, le_nI (by omega) (by omega), if_neg (by omega), s1, c1_eq, le_nI (by omega) (by omega), if_neg (by omega), p1, c1_eq]
        rcases f3 with ⟨g1, g2, E', od', g3, g4, g5, g6, g7⟩ | ⟨g1, g2⟩
        · have rel : RelP B3 (Z3 1) (mv Q t q) E' od' := ⟨hQ1, by rw [z31]; exact p2, BPl_frame f1 s3, g3, g4, g5, g6, by rw [show pn (mv Q t q) = pn P from hQn]; exact rest3⟩
          have pe : pn (mv Q t q) = pn P := hQn
          have l1 := p_lateTogether rel (du := du) (by rw [pe]; exact hD3)
          have l2 := q_lateTogether (Z := Z3) (n := pn P) (E := E') hn h03 (fun t ht => (g7 t (by rw [pe]; exact ht)).2) (fun t ht => by have := rel.E_le (t := t) (by rw [pe]; exact ht); omega) hD3
          rw [pe] at l1
          obtain ⟨v, hv⟩ : ∃ v, nI (sumN (fun t => E' t - du t) (pn P)) = v := ⟨_, rfl⟩
          rw [hv] at l1 l2
          unfold FX2_findBestPlace_64 FX6_bestPlace_88
          rw [g1, c2_eq, g2, c2_eq, l1, l2]
          simp only [c1_eq, lt1_eq, nI_1]
          rw [if_neg (show ¬ (1 : Int32) = 0 by decide), if_neg (show ¬ (1 : Int32) = 0 by decide)]
          by_cases e1 : r = -6
          · rw [if_pos e1, if_pos e1]; exact nx _ _
          · rw [if_neg e1, if_neg e1]
            by_cases e2 : l ≤ v
            · rw [if_pos e2, if_pos e2]; exact nx _ _
            · rw [if_neg e2, if_neg e2]; exact nx _ _
        · obtain ⟨v, hv⟩ := q_late_some (Z := Z3) hn h03
          rw [g1, c2_eq, g2, c2_eq, hv, c1_eq, if_pos rfl, if_pos rfl]
          simp only [lt1_eq, nI_1]
          exact nx _ _
    obtain ⟨r', B', Z', q1, q2, q3, q4⟩ := loop (cn P (pm P t)) 0 fu fu (-6) 0 B1 (M 12) P (by omega) (fu_gt (by omega)) (fu_gt (by omega)) rfl (fun u hu => ⟨rfl, rfl, rfl, mv_id hP ht u hu⟩) (fun _ => rfl) hP hR1.2.2.1 hz hR1.2.2.2.2.2.2.2 (fun _ _ => rfl) (Fz.refl _)
    refine ⟨r', jb (jb M 1 B1) 1 B', Z', ?_, fun i hi => by rw [jb_ne hi, jb_ne hi], q2, q3, q4⟩
    unfold FX2_findBestPlace
    have q1' : FX2_findBestPlace_8 fu (nI t) (-6) 0 0 B1 = some (r', B') := q1
    rw [q1', c2_eq, lt1_eq]
  · rw [(p_has hB.1 a).2 d0, (q_isTask hz.1 a).2 d0]
    exact W_none h0 rfl rfl
