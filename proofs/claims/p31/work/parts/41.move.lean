/-! move, of the class and of the model -/
def zput (z : Nat → Int32) (P : PD) (t q j : Nat) : Nat → Int32 := fun x => if 172 ≤ x ∧ x < 172 + j ∧ x ≠ 172 + t then nI (mvp P t q (x - 172)) else z x
set_option maxRecDepth 100000 in
theorem q_putAt {Z : Blk} {P : PD} (hP : Pln P) (hz : ZPl (Z 1) P) {t q : Nat} (ht : t < pn P) (hq : q < cn P (pm P t)) : ∃ z' : Nat → Int32, FX6_putAt Z (nI t) (nI q) = some (bc Z 1 z') ∧ ZPl z' (mv P t q) ∧ ∀ k, k < 172 ∨ 196 ≤ k → z' k = Z 1 k := by
  have hn := hP.1
  have hm := (hP.2.1 t ht).1
  have hp := (hP.2.1 t ht).2.2.2.2
  have hc := cn_le hP (pm P t)
  have key : ∀ d j fuel, j + d = pn P → d < fuel → FX6_putAt_14 fuel (nI t) (nI q) (nI (pp P t)) (nI j) (bc Z 1 (zput (Z 1) P t q j)) = some (bc Z 1 (upd (zput (Z 1) P t q (pn P)) (172 + t) (nI q))) := by
    intro d
    induction d with
    | zero =>
      intro j fuel hj hf
      obtain ⟨k, rfl⟩ : ∃ k, fuel = k + 1 := ⟨fuel - 1, by omega⟩
      have e : j = pn P := by omega
      subst e
      show FX6_putAt_14s _ _ _ _ _ _ = _
      unfold FX6_putAt_14s
      have e0 : bc Z 1 (zput (Z 1) P t q (pn P)) 1 0 = nI (pn P) := by
        rw [bc_at]; unfold zput; rw [if_neg (by omega)]; exact hz.1
      rw [k0, ld_nI (by decide) (by decide), e0, le_nI (by omega) (by omega), if_pos (Nat.le_refl _), k172, nI_add, stb_nI (by omega) (by decide), bs_bc]
    | succ d ih =>
      intro j fuel hj hf
      obtain ⟨k, rfl⟩ : ∃ k, fuel = k + 1 := ⟨fuel - 1, by omega⟩
      have hjn : j < pn P := by omega
      obtain ⟨z1, z2, z3, z4⟩ := hz.2 j hjn
      obtain ⟨y1, y2, y3, y4⟩ := hz.2 t ht
      have hjm := (hP.2.1 j hjn).1
      have hjp := (hP.2.1 j hjn).2.2.2.2
      have hjc := cn_le hP (pm P j)
      have low : ∀ x, x < 172 → bc Z 1 (zput (Z 1) P t q j) 1 x = Z 1 x := by
        intro x hx
        rw [bc_at]; unfold zput; rw [if_neg (by omega)]
      have at_ : bc Z 1 (zput (Z 1) P t q j) 1 (172 + j) = nI (pp P j) := by
        rw [bc_at]; unfold zput; rw [if_neg (by omega)]; exact z3
      show FX6_putAt_14s _ _ _ _ _ _ = _
      unfold FX6_putAt_14s
      rw [k0, ld_nI (by decide) (by decide), low 0 (by omega), hz.1, le_nI (by omega) (by omega), if_neg (by omega), eq_nI (by omega) (by omega)]
      have same : (j = t ∨ pm P j ≠ pm P t) → zput (Z 1) P t q (j + 1) = zput (Z 1) P t q j := by
        intro h
        funext x
        unfold zput
        by_cases c : 172 ≤ x ∧ x < 172 + j ∧ x ≠ 172 + t
        · rw [if_pos c, if_pos (by omega)]
        · rw [if_neg c]
          by_cases c2 : 172 ≤ x ∧ x < 172 + (j + 1) ∧ x ≠ 172 + t
          · rw [if_pos c2]
            have : x = 172 + j := by omega
            subst this
            have hjt : pm P j ≠ pm P t := by
              rcases h with h | h
              · omega
              · exact h
            rw [show 172 + j - 172 = j by omega, mvp_o hjt, z3]
          · rw [if_neg c2]
      by_cases c : j = t
      · rw [if_pos c, lt1_eq, k1, nI_add]
        rw [← same (Or.inl c)]
        exact ih (j + 1) k (by omega) (by omega)
      · rw [if_neg c, k4, nI_add, nI_add, ld_nI (by omega) (by decide), ld_nI (by omega) (by decide), low _ (by omega), low _ (by omega), z1, y1, eq_nI (by omega) (by omega)]
        by_cases c2 : pm P j = pm P t
        · rw [if_pos c2, k172, nI_add, ld_nI (by omega) (by decide), at_, le_nI (by omega) (by omega)]
          have hne : pp P j ≠ pp P t := fun e => c (hP.2.2.1 j t hjn ht c2 e)
          have fin : ∀ v, v = mvp P t q j → FX6_putAt_120 (FX6_putAt_14 k) (nI t) (nI q) (nI (pp P t)) (nI j) (nI v) (nI (172 + j)) (bc Z 1 (zput (Z 1) P t q j)) = some (bc Z 1 (upd (zput (Z 1) P t q (pn P)) (172 + t) (nI q))) := by
            intro v hv
            unfold FX6_putAt_120
            rw [stb_nI (by omega) (by decide), lt1_eq, k1, nI_add, bs_bc]
            have e : upd (zput (Z 1) P t q j) (172 + j) (nI v) = zput (Z 1) P t q (j + 1) := by
              funext x
              unfold upd zput
              by_cases c : x = 172 + j
              · rw [if_pos c, if_pos (by omega), c, show 172 + j - 172 = j by omega, hv]
              · rw [if_neg c]
                by_cases c2 : 172 ≤ x ∧ x < 172 + j ∧ x ≠ 172 + t
                · rw [if_pos c2, if_pos (by omega)]
                · rw [if_neg c2, if_neg (by omega)]
            rw [e]
            exact ih (j + 1) k (by omega) (by omega)
          have fin2 : ∀ v, v ≤ 24 → (mvp P t q j = if v < q then v else v + 1) → FX6_putAt_93 (FX6_putAt_14 k) (nI t) (nI q) (nI (pp P t)) (nI j) (nI v) (bc Z 1 (zput (Z 1) P t q j)) = some (bc Z 1 (upd (zput (Z 1) P t q (pn P)) (172 + t) (nI q))) := by
            intro v hv2 hv
            unfold FX6_putAt_93
            rw [lt_nI (by omega) (by omega), k172, k1, nI_add, nI_add]
            by_cases c3 : v < q
            · rw [if_pos c3] at hv ⊢
              exact fin v hv.symm
            · rw [if_neg c3] at hv ⊢
              exact fin (v + 1) hv.symm
          by_cases c3 : pp P j ≤ pp P t
          · rw [if_pos c3, ld_nI (by omega) (by decide), at_]
            refine fin2 _ (by omega) ?_
            rw [mvp_s c c2, if_pos c3]
          · rw [if_neg c3, ld_nI (by omega) (by decide), at_, nI_sub1 (by omega)]
            refine fin2 _ (by omega) ?_
            rw [mvp_s c c2, if_neg c3]
        · rw [if_neg c2, lt1_eq, k1, nI_add]
          rw [← same (Or.inr c2)]
          exact ih (j + 1) k (by omega) (by omega)
  obtain ⟨z', hz'⟩ : ∃ z', upd (zput (Z 1) P t q (pn P)) (172 + t) (nI q) = z' := ⟨_, rfl⟩
  have low : ∀ k, k < 172 ∨ 196 ≤ k → z' k = Z 1 k := by
    intro k hk
    rw [← hz', upd_ne (by omega)]
    unfold zput
    rw [if_neg (by omega)]
  refine ⟨z', ?_, ⟨by rw [low 0 (by omega)]; exact hz.1, fun u hu => ?_⟩, low⟩
  · unfold FX6_putAt
    obtain ⟨y1, y2, y3, y4⟩ := hz.2 t ht
    rw [k172, nI_add, ld_nI (by omega) (by decide), y3]
    have := key (pn P) 0 fu (by omega) (fu_gt (by omega))
    have e : zput (Z 1) P t q 0 = Z 1 := by
      funext x
      unfold zput
      rw [if_neg (by omega)]
    rw [e, bc_self, hz'] at this
    exact this
  · have hu : u < pn P := hu
    obtain ⟨z1, z2, z3, z4⟩ := hz.2 u hu
    refine ⟨by rw [low _ (by omega)]; exact z1, by rw [low _ (by omega)]; exact z2, ?_, by rw [low _ (by omega)]; exact z4⟩
    show z' (172 + u) = nI (mvp P t q u)
    rw [← hz']
    by_cases c : u = t
    · subst c
      rw [upd_at, mvp_t]
    · rw [upd_ne (by omega)]
      unfold zput
      rw [if_pos (by omega), show 172 + u - 172 = u by omega]
/-- schedule and reckon say the same, on one plan -/
theorem plan_both {B Z : Blk} {P : PD} (hP : Pln P) (hB : BPl B P) (hz : ZPl (Z 1) P) (hi : Idle Z) : ∃ B' Z' : Blk, (∀ o, o ≠ 6 → o ≠ 7 → o ≠ 10 → B' o = B o) ∧ (∀ o, o ≠ 7 → o ≠ 8 → Z' o = Z o) ∧
    ((FX4_schedule B = some (1, B') ∧ FX6_reckon Z = some (1, Z') ∧ ∃ E od : Nat → Nat, Ends P (pd P) E ∧ Topo P od ∧ (∀ t, t < pn P → B' 6 t = nI (E t)) ∧ (∀ i, i < pn P → B' 7 i = nI (od i)) ∧ ∀ t, t < pn P → Z' 7 t = nI (E t - pd P t) ∧ Z' 8 t = nI (E t)) ∨ (FX4_schedule B = some (0, B') ∧ FX6_reckon Z = some (0, Z'))) := by
  have hn := hP.1
  have hd := fun t (ht : t < pn P) => (hP.2.1 t ht).2.1
  obtain ⟨B', hf, h⟩ := p_schedule hP hB
  have hh := held_none hP hi.1
  rcases h with ⟨h1, E, od, h2, h3, h4, h5⟩ | ⟨h1, h2⟩
  · obtain ⟨Z', r1, r2, r3⟩ := reck hP hz hh h3 h2
    exact ⟨B', Z', hf, r2, Or.inl ⟨h1, r1, E, od, h2, h3, h4, h5, r3⟩⟩
  · obtain ⟨Z', r1, r2⟩ := r_reckon hP hz hh
    rcases r2 with ⟨r2, S, s1, s2⟩ | ⟨r2, r3⟩
    · have hE : Ends P (pd P) (fun u => S u + pd P u) := fun u hu => by
        show S u + pd P u = gs P (pd P) S u + pd P u
        rw [← s1 u hu]
      exact absurd (ends_rank hP hd hE) (h2 _)
    · exact ⟨B', Z', hf, r1, Or.inr ⟨h1, r2⟩⟩
theorem ZPl_low {z z' : Nat → Int32} {P : PD} {n : Nat} {B : Blk} (h : Rest B z n) (hl : ∀ k, k < 172 ∨ 196 ≤ k → z' k = z k) (hn : n ≤ 24) : Rest B z' n :=
  Rest_frame h rfl rfl rfl (fun _ _ _ => rfl) (hl 1 (by omega)) (hl 2 (by omega)) (hl 3 (by omega)) (fun k hk => hl k (by omega)) hn
set_option maxRecDepth 100000 in
theorem m_move (a b : Int32) : MOp (fun B => FX2_moveTask B a b) (fun Z => FX6_move Z a b) := by
  intro B Z h hi hq
  show OpGoal B Z (FX2_moveTask B a b) (FX6_move Z a b)
  have h0 := h
  obtain ⟨P, E, o, hRP⟩ := h
  have hn := hRP.n
  have hB := hRP.2.2.1.1
  have hz := hRP.2.1.1
  have hP := hRP.1
  unfold FX2_moveTask FX6_move
  by_cases d0 : inT (pn P) a
  · rw [(p_has hB a).1 d0, (q_isTask hz a).1 d0, c1_eq, c1_eq, if_neg (show ¬ (1 : Int32) = 0 by decide), if_neg (show ¬ (1 : Int32) = 0 by decide)]
    obtain ⟨t, ht, rfl⟩ := inT_of d0 (by omega)
    obtain ⟨hm, -, -, -, hp⟩ := hP.2.1 t ht
    have hc := cn_le hP (pm P t)
    obtain ⟨y1, y2, y3, y4⟩ := hRP.2.1.2 t ht
    obtain ⟨x1, x2, x3⟩ := hRP.2.2.1.2.1 t ht
    rw [k4, nI_add, ld_nI (f := Z 1) (by omega) (by decide), y1, q_manyOn hP hRP.2.1 (by omega), c1_eq, nI_sub1 (by omega), q_in, c1_eq, ite_bool, ld_nI (f := B 3) (by omega) (by decide), x1, ld_nI (f := B 9) hm (by decide), hRP.2.2.1.2.2.1 _ hm]
    by_cases d1 : b < 0
    · rw [if_pos d1, if_neg (fun q => absurd d1 (Int32.not_lt.mpr q.1))]
      exact MOp_err h0 (by decide) rfl rfl
    · obtain ⟨q, hq0, rfl⟩ := nI_of d1
      rw [if_neg d1, lt_nI hq0 (by omega)]
      by_cases d2 : q < cn P (pm P t)
      · rw [if_pos d2, if_pos ⟨nI_pos' hq0, (nI_leI hq0 (by omega)).mpr (by omega)⟩, p_placeOf hP hRP.2.2.1 ht, c1_eq, k172, nI_add, ld_nI (f := Z 1) (by omega) (by decide), y3]
        obtain ⟨B1, s1, s2, s3⟩ := p_shift hP hRP.2.2.1 ht d2
        obtain ⟨z1, p1, p2, p3⟩ := q_putAt hP hRP.2.1 ht d2
        have hP1 := mv_pln hP ht d2
        have i1 : Idle (bc Z 1 z1) := by
          unfold Idle
          rw [bc_ne (by omega)]
          exact hi
        obtain ⟨B2, Z2, f1, f2, f3⟩ := plan_both hP1 s3 (by rw [bc_at]; exact p2) i1
        rw [s1, c1_eq, p1, c1_eq]
        have hz2 : Z2 1 = z1 := by rw [f2 1 (by omega) (by omega), bc_at]
        -- back again
        have bk := mv_back hP ht d2
        have hpt : pp P t < cn (mv P t q) (pm (mv P t q) t) := hp
        obtain ⟨z3, w1, w2, w3⟩ := q_putAt (Z := Z2) hP1 (by rw [hz2]; exact p2) (t := t) (q := pp P t) ht hpt
        have w4 : ZPl z3 P := ZPl_congr (P := mv (mv P t q) t (pp P t)) rfl (fun u hu => ⟨rfl, bk u hu, rfl, rfl⟩) w2
        have low3 : ∀ k, k < 172 ∨ 196 ≤ k → z3 k = Z 1 k := fun k hk => by rw [w3 k hk, hz2, p3 k hk]
        have rest3 : Rest B z3 (pn P) := ZPl_low (P := P) hRP.2.2.2.2.2.2.2 low3 hn
        have rel3 : RelP B z3 P E o := ⟨hP, w4, hRP.2.2.1, hRP.2.2.2.1, hRP.2.2.2.2.1, hRP.2.2.2.2.2.1, hRP.2.2.2.2.2.2.1, rest3⟩
        have zf : ∀ o, o ≠ 1 → o ≠ 7 → o ≠ 8 → bc Z2 1 z3 o = Z o := fun o h1 h7 h8 => by rw [bc_ne h1, f2 o h7 h8, bc_ne h1]
        rcases f3 with ⟨g1, g2, E', od', g3, g4, g5, g6, g7⟩ | ⟨g1, g2⟩
        · rw [g1, c2_eq, g2, c2_eq, w1, c1_eq, if_neg (show ¬ (1 : Int32) = 0 by decide), if_neg (show ¬ (1 : Int32) = 0 by decide)]
          obtain ⟨ZR, r1, r2, r3⟩ := q_record (Z := bc Z2 1 z3) (hq.cg (zf 0 (by omega) (by omega) (by omega)))
          have hZR : ZR 1 = z3 := by rw [r3 1 (by omega) (by omega), bc_at]
          obtain ⟨z4, v1, v2, v3⟩ := q_putAt (Z := ZR) hP (by rw [hZR]; exact w4) ht d2
          rw [r1, c1_eq, v1, c1_eq]
          have low4 : ∀ k, k < 172 ∨ 196 ≤ k → z4 k = Z 1 k := fun k hk => by rw [v3 k hk, hZR, low3 k hk]
          have kz : ∀ o, o ≠ 0 → o ≠ 1 → o ≠ 2 → o ≠ 7 → o ≠ 8 → bc ZR 1 z4 o = Z o := fun o h0 h1 h2 h7 h8 => by rw [bc_ne h1, r3 o h0 h2, zf o h1 h7 h8]
          refine ⟨nI (pp P t), B2, bc ZR 1 z4, rfl, rfl, ⟨mv P t q, E', od', ?_⟩, ⟨kz 3 (by omega) (by omega) (by omega) (by omega) (by omega), kz 4 (by omega) (by omega) (by omega) (by omega) (by omega), kz 6 (by omega) (by omega) (by omega) (by omega) (by omega), kz 11 (by omega) (by omega) (by omega) (by omega) (by omega)⟩, Or.inr ⟨nneg (by omega), z3, ⟨P, E, o, rel3⟩, ?_⟩⟩
          · rw [bc_at]
            have fB : ∀ o, o ≠ 6 → o ≠ 7 → o ≠ 8 → o ≠ 10 → B2 o = B o := fun o h6 h7 h8 h10 => by rw [f1 o h6 h7 h10, s2 o h8]
            refine ⟨hP1, v2, BPl_frame f1 s3, g3, g4, g5, g6, ?_⟩
            exact Rest_frame (B := B) (z := Z 1) hRP.2.2.2.2.2.2.2 (by rw [fB 0 (by omega) (by omega) (by omega) (by omega)]) (by rw [fB 0 (by omega) (by omega) (by omega) (by omega)]) (by rw [fB 2 (by omega) (by omega) (by omega) (by omega)]) (fun o h1 h2 => fB o (by omega) (by omega) (by omega) (by omega)) (low4 1 (by omega)) (low4 2 (by omega)) (low4 3 (by omega)) (fun k hk => low4 k (by omega)) hn
          · have r2' : Pushed (bc Z2 1 z3) ZR z3 := by
              have e : bc Z2 1 z3 1 = z3 := bc_at
              rw [e] at r2
              exact r2
            exact r2'.cg (zf 0 (by omega) (by omega) (by omega)) (zf 2 (by omega) (by omega) (by omega)) (bc_ne (by omega)) (bc_ne (by omega))
        · rw [g1, c2_eq, g2, c2_eq, w1, c1_eq, if_pos rfl, if_pos rfl]
          have b2 : BPl B2 (mv P t q) := BPl_frame f1 s3
          obtain ⟨B3, s4, s5, s6⟩ := p_shift hP1 b2 (t := t) (q := pp P t) ht hpt
          have b3 : BPl B3 P := BPl_congr (P := mv (mv P t q) t (pp P t)) rfl (fun u hu => ⟨rfl, bk u hu, rfl, rfl⟩) s6
          have hrank : Rank P E := ends_rank hP (fun u hu => (hP.2.1 u hu).2.1) hRP.2.2.2.1
          have fB : ∀ o, o ≠ 6 → o ≠ 7 → o ≠ 8 → o ≠ 10 → B3 o = B o := fun o h6 h7 h8 h10 => by rw [s5 o h8, f1 o h6 h7 h10, s2 o h8]
          obtain ⟨B4, c1', c2', E', od', c3'⟩ := sched_ok hP b3 hrank w4 (Rest_frame (B := B) (z := Z 1) hRP.2.2.2.2.2.2.2 (by rw [fB 0 (by omega) (by omega) (by omega) (by omega)]) (by rw [fB 0 (by omega) (by omega) (by omega) (by omega)]) (by rw [fB 2 (by omega) (by omega) (by omega) (by omega)]) (fun o h1 h2 => fB o (by omega) (by omega) (by omega) (by omega)) (low3 1 (by omega)) (low3 2 (by omega)) (low3 3 (by omega)) (fun k hk => low3 k (by omega)) hn)
          rw [s4, c1_eq, c1', c2_eq]
          refine ⟨-5, B4, bc Z2 1 z3, rfl, rfl, ⟨P, E', od', by rw [bc_at]; exact c3'⟩, ⟨zf 3 (by omega) (by omega) (by omega), zf 4 (by omega) (by omega) (by omega), zf 6 (by omega) (by omega) (by omega), zf 11 (by omega) (by omega) (by omega)⟩, Or.inl ⟨by decide, zf 0 (by omega) (by omega) (by omega), zf 2 (by omega) (by omega) (by omega)⟩⟩
      · rw [if_neg d2, if_neg (fun c => absurd ((nI_leI hq0 (by omega)).mp c.2) (by omega))]
        exact MOp_err h0 (by decide) rfl rfl
  · rw [(p_has hB a).2 d0, (q_isTask hz a).2 d0]
    exact MOp_err h0 (by decide) rfl rfl
