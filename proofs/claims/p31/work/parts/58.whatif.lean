/-! what-ifs: lateBehind, wouldBuy, leastMoney, endIf -/
def WGoal (M : Mem) (x : Option (Int32 × Mem)) (y : Option (Int32 × Blk)) : Prop := ∃ (r : Int32) (M' : Mem) (Z' : Blk), x = some (r, M') ∧ (∀ i, i ≠ 1 → M' i = M i) ∧ y = some (r, Z') ∧ Rel (M 0) (Z' 1) ∧ Fz (M 12) Z'
theorem W_none {M : Mem} (h : Rel (M 0) (M 12 1)) {r : Int32} {x : Option (Int32 × Mem)} {y : Option (Int32 × Blk)} (hx : x = some (r, M)) (hy : y = some (r, M 12)) : WGoal M x y := ⟨r, M, M 12, hx, fun _ _ => rfl, hy, h, Fz.refl _⟩
theorem Fz.bc {Z : Blk} {o : Nat} {f : Nat → Int32} (h : o = 1 ∨ o = 5 ∨ o = 7 ∨ o = 8 ∨ o = 9 ∨ o = 10) : Fz Z (bc Z o f) := by
  refine ⟨bc_ne ?_, bc_ne ?_, bc_ne ?_, bc_ne ?_, bc_ne ?_, bc_ne ?_⟩ <;> omega
theorem w_lateBehind {M : Mem} (h : Rel (M 0) (M 12 1)) (hi : Idle (M 12)) : WGoal M (FX5_lateBehind M) (FX6_lateBehind (M 12)) := by
  obtain ⟨P, E, o, hR⟩ := h
  obtain ⟨B1, c1', c2'⟩ := p_copyFrom (M 1) (M 0)
  obtain ⟨Z, hZ⟩ : ∃ Z, bc (M 12) 5 (cpz (M 12 5) (M 12 1) 0 356) = Z := ⟨_, rfl⟩
  have z1 : Z 1 = M 12 1 := by rw [← hZ, bc_ne (by omega)]
  have z5 : Z 5 = cpz (M 12 5) (M 12 1) 0 356 := by rw [← hZ, bc_at]
  have z0 : Z 0 = M 12 0 := by rw [← hZ, bc_ne (by omega)]
  have hR1 : RelP B1 (Z 1) P E o := by rw [z1]; exact hR.eqb c2'
  obtain ⟨B', Z', k, k', t1, t2, t3, t4, t5, t6, t7, t8, t9⟩ := tradeAll_both hR1 (hi.cg z0)
  have hn := t7.n
  obtain ⟨du', hD'⟩ := t7.du
  have hl := p_lateTogether t7 hD'
  have hl2 := q_lateTogether (Z := Z') hn t7.2.1.1 t8 (fun t ht => by have := t7.E_le ht; omega) hD'
  have e5 : Z' 5 = cpz (M 12 5) (M 12 1) 0 356 := by rw [t9 5 (by omega) (by omega) (by omega) (by omega) (by omega), z5]
  refine ⟨nI (sumN (fun t => E t - du' t) (pn P)), jb (jb M 1 B1) 1 B', bc Z' 1 (cpz (Z' 1) (Z' 5) 0 356), ?_, fun i hi => by rw [jb_ne hi, jb_ne hi], ?_, ?_, ?_⟩
  · unfold FX5_lateBehind
    rw [c1', c1_eq, lt1_eq, jb_at, t5, c2_eq, lt1_eq, jb_at, hl, c1_eq]
  · unfold FX6_lateBehind
    rw [q_putAside, c1_eq, hZ, t6, c1_eq, hl2, c1_eq, q_bringBack, c1_eq]
  · rw [bc_at]
    exact ⟨P, E, o, hR.eqz (back_eq e5)⟩
  · refine Fz.trans (Z2 := Z') ?_ (Fz.bc (Or.inl rfl))
    have f1 : Fz (M 12) Z := by rw [← hZ]; exact Fz.bc (Or.inr (Or.inl rfl))
    refine f1.trans ⟨?_, ?_, ?_, ?_, ?_, ?_⟩ <;> exact t9 _ (by omega) (by omega) (by omega) (by omega) (by omega)
/-- how buying on a copy goes -/
theorem wb_core {M : Mem} {P : PD} {E o du : Nat → Nat} {t k : Nat} {B1 : Blk} {zz : Nat → Int32} {Z2 : Blk} (hR : RelP B1 zz P E o) (h1 : Z2 1 = zz) (h8 : ∀ t, t < pn P → Z2 8 t = nI (E t)) (hD : DU zz (pn P) du) (ht : t < pn P) (hk : zz 3 = nI k) (hk4 : k ≤ 40) : ∃ (B' : Blk) (z' L : Nat → Int32) (du' : Nat → Nat) (k' : Nat), FX2_buyFor B1 (nI t) = some B' ∧ FX6_buys Z2 (nI t) = some (bc (bc Z2 9 L) 1 z') ∧ RelP B' z' P E o ∧ DU z' (pn P) du' ∧ z' 3 = nI k' ∧ k' ≤ 40 ∧ PG (pn P) E t du du' z' k k' := by
  obtain ⟨B', z', L, du', k', b1, b2, b3, b4, b5, b6⟩ := buy_both (B := B1) (Z := Z2) (by rw [h1]; exact hR) h8 (by rw [h1]; exact hD) ht (by rw [h1]; exact hk) hk4
  refine ⟨B', z', L, du', k', b1, b2, ?_, ?_, b4, b5, b6⟩
  · have := b3.1
    rw [bc_at] at this
    exact this
  · have := b3.2.2.2
    rw [bc_at] at this
    exact this
def orF (g : Nat → Int32) (n : Nat) : Int32 := foldN (fun i a => a ||| ((1 : Int32) <<< (g i &&& 31))) n 0
theorem p_since {B : Blk} {z : Nat → Int32} {k k' : Nat} (hk : k ≤ k') (hk' : k' ≤ 40) (h2 : B 2 0 = nI k') (h12 : ∀ c, c < k' → B 12 c = z (196 + c)) : FX0_sellersSince B (nI k) = some (orF (fun i => z (196 + (k + i))) (k' - k)) := by
  unfold FX0_sellersSince
  rw [if_neg (nneg (by omega)), lt1_eq]
  refine loop_fold (fun fuel i a => FX0_sellersSince_8 B fuel a (nI (k + i))) (k' - k) (fun i a => a ||| ((1 : Int32) <<< (z (196 + (k + i)) &&& 31))) (fun a => some a) (fun q s => ?_) (fun q i s hi => ?_) (fu_gt (show k' - k < 100000 by omega))
  · show FX0_sellersSince_8s B _ _ _ = _
    unfold FX0_sellersSince_8s
    rw [h2, le_nI (by omega) (by omega), if_pos (by omega)]
  · show FX0_sellersSince_8s B (FX0_sellersSince_8 B q) _ _ = _
    unfold FX0_sellersSince_8s
    rw [h2, le_nI (by omega) (by omega), if_neg (by omega), ld_nI (by omega) (by decide), h12 _ (by omega), lt1_eq, lt1_eq, nI_1, Nat.add_assoc]
set_option maxRecDepth 100000 in
theorem q_wb63 {Z : Blk} {t k k' : Nat} {b m : Int32} (hk : k ≤ k') (hk' : k' ≤ 40) (h3 : Z 1 3 = nI k') (ht : t < 24) : FX6_wouldBuy_63 fu (nI t) b m 0 0 (nI k) Z = (lt1 (m - Z 1 (76 + t)) fun x29 => c1 (FX6_bringBack Z) fun B33 => if b = 0 then some (sumI (fun i => Z 1 (276 + (k + i))) (k' - k), B33) else if b = 1 then some (x29, B33) else some (orF (fun i => Z 1 (196 + (k + i))) (k' - k), B33)) := by
  have key : ∀ d i fuel, i + d = k' - k → d < fuel → FX6_wouldBuy_63 fuel (nI t) b m (sumI (fun i => Z 1 (276 + (k + i))) i) (orF (fun i => Z 1 (196 + (k + i))) i) (nI (k + i)) Z = (lt1 (m - Z 1 (76 + t)) fun x29 => c1 (FX6_bringBack Z) fun B33 => if b = 0 then some (sumI (fun i => Z 1 (276 + (k + i))) (k' - k), B33) else if b = 1 then some (x29, B33) else some (orF (fun i => Z 1 (196 + (k + i))) (k' - k), B33)) := by
    intro d
    induction d with
    | zero =>
      intro i fuel hi hf
      obtain ⟨q, rfl⟩ : ∃ q, fuel = q + 1 := ⟨fuel - 1, by omega⟩
      have e : i = k' - k := by omega
      subst e
      show FX6_wouldBuy_63s _ _ _ _ _ _ _ _ = _
      unfold FX6_wouldBuy_63s
      rw [k3, ld_nI (by decide) (by decide), h3, le_nI (by omega) (by omega), if_pos (by omega), k76, nI_add, ld_nI (by omega) (by decide)]
    | succ d ih =>
      intro i fuel hi hf
      obtain ⟨q, rfl⟩ : ∃ q, fuel = q + 1 := ⟨fuel - 1, by omega⟩
      show FX6_wouldBuy_63s (FX6_wouldBuy_63 q) _ _ _ _ _ _ _ = _
      unfold FX6_wouldBuy_63s
      rw [k3, ld_nI (by decide) (by decide), h3, le_nI (by omega) (by omega), if_neg (by omega), k276, nI_add, ld_nI (by omega) (by decide), lt1_eq, k196, nI_add, ld_nI (by omega) (by decide), lt1_eq, lt1_eq, nI_1, Nat.add_assoc]
      exact ih (i + 1) q (by omega) (by omega)
  exact key (k' - k) 0 fu (by omega) (fu_gt (by omega))
theorem w_wouldBuy {M : Mem} (h : Rel (M 0) (M 12 1)) (hi : Idle (M 12)) (a b : Int32) : WGoal M (FX5_wouldBuy M a b) (FX6_wouldBuy (M 12) a b) := by
  have h0 := h
  obtain ⟨P, E, o, hR⟩ := h
  have hn := hR.n
  have hP := hR.1
  have hB := hR.2.2.1
  have hz := hR.2.1
  unfold FX5_wouldBuy FX6_wouldBuy
  by_cases d0 : inT (pn P) a
  · rw [(p_has hB.1 a).1 d0, (q_isTask hz.1 a).1 d0, c1_eq, c1_eq, if_neg (show ¬ (1 : Int32) = 0 by decide), if_neg (show ¬ (1 : Int32) = 0 by decide), cin2, q_in, c1_eq, ite_bool]
    obtain ⟨t, ht, rfl⟩ := inT_of d0 (by omega)
    by_cases d1 : 0 ≤ b ∧ b ≤ 2
    · rw [if_pos d1, if_pos d1]
      obtain ⟨du, hD⟩ := hR.du
      obtain ⟨k, hk1, hk2, hk3⟩ := hR.k
      obtain ⟨B1, c1', c2'⟩ := p_copyFrom (M 1) (M 0)
      obtain ⟨Z, hZ⟩ : ∃ Z, bc (M 12) 5 (cpz (M 12 5) (M 12 1) 0 356) = Z := ⟨_, rfl⟩
      have z1 : Z 1 = M 12 1 := by rw [← hZ, bc_ne (by omega)]
      have z5 : Z 5 = cpz (M 12 5) (M 12 1) 0 356 := by rw [← hZ, bc_at]
      have z0 : Z 0 = M 12 0 := by rw [← hZ, bc_ne (by omega)]
      obtain ⟨Z2, r1, r2, r3⟩ := reck (Z := Z) hP (by rw [z1]; exact hz) (held_none hP (hi.cg z0).1) hR.2.2.2.2.1 hR.2.2.2.1
      have z21 : Z2 1 = M 12 1 := by rw [r2 1 (by omega) (by omega), z1]
      obtain ⟨B', z', L, du', k', b1, b2, b3, b4, b5, b6, b7⟩ := wb_core (M := M) (hR.eqb c2') z21 (fun t ht => (r3 t ht).2) hD ht hk3 hk1
      obtain ⟨Z3, hZ3⟩ : ∃ Z3, bc (bc Z2 9 L) 1 z' = Z3 := ⟨_, rfl⟩
      have z31 : Z3 1 = z' := by rw [← hZ3, bc_at]
      have e5 : Z3 5 = cpz (M 12 5) (M 12 1) 0 356 := by rw [← hZ3, bc_ne (by omega), bc_ne (by omega), r2 5 (by omega) (by omega), z5]
      have hD0 : DU (M 12 1) (pn P) du := hD
      have vb2 : B' 2 0 = nI k' := by
        obtain ⟨k'', -, x2, x3⟩ := b3.k
        rw [x2, ← x3, b5]
      have v12 : ∀ c, c < k' → B' 12 c = z' (196 + c) := by
        obtain ⟨k'', w1, w2, w3, w4⟩ := b3.2.2.2.2.2.2.2.2.2.2.2.2
        have : k'' = k' := (nI_eq (by omega) (by omega)).mp (by rw [← w3, b5])
        subst this
        exact fun c hc => (w4 c hc).1.1
      have hle := b7.1
      have hEt := hR.E_le ht
      have vsum := b7.2.2.2.1
      have vlate : nI (E t - du t) - nI (E t - du' t) = nI (du' t - du t) := by
        have := b7.2.2.1
        rw [nI_sub (by omega)]
        congr 1
        omega
      have g1 := (hR.2.2.2.2.2.2.2.2.1 t ht).2.1
      have g2 := (b3.2.2.2.2.2.2.2.2.1 t ht).2.1
      have fz : Fz (M 12) (bc Z3 1 (cpz (Z3 1) (Z3 5) 0 356)) := by
        have f1 : Fz (M 12) Z := by rw [← hZ]; exact Fz.bc (Or.inr (Or.inl rfl))
        have f2 : Fz Z2 Z3 := by rw [← hZ3]; exact (Fz.bc (by omega)).trans (Fz.bc (Or.inl rfl))
        exact ((f1.trans (Fz.of78 r2)).trans f2).trans (Fz.bc (Or.inl rfl))
      have rel : Rel (M 0) (bc Z3 1 (cpz (Z3 1) (Z3 5) 0 356) 1) := by
        rw [bc_at]
        exact ⟨P, E, o, hR.eqz (back_eq e5)⟩
      have fr : ∀ i, i ≠ 1 → jb (jb M 1 B1) 1 B' i = M i := fun i hi => by rw [jb_ne hi, jb_ne hi]
      rw [c1', c1_eq, lt1_eq, jb_at, b1, c1_eq, lt1_eq, q_putAside, c1_eq, hZ, r1, c2_eq, k3, ld_nI (f := Z2 1) (by decide) (by decide), z21, hk3, k76, nI_add, ld_nI (f := M 12 1) (by omega) (by decide), b2, c1_eq, hZ3, q_wb63 hle b6 (by rw [z31]; exact b5) (by omega), lt1_eq, q_bringBack, c1_eq, z31]
      by_cases c0 : b = 0
      · rw [if_pos c0, if_pos c0, fr 0 (by omega), p_lateOf hR hD ht, c1_eq, jb_at, p_lateOf b3 b4 ht, c1_eq, vlate, vsum]
        exact ⟨_, _, _, rfl, fr, rfl, by rw [← z31]; exact rel, by rw [← z31]; exact fz⟩
      · rw [if_neg c0, if_neg c0]
        by_cases c1 : b = 1
        · rw [if_pos c1, if_pos c1, fr 0 (by omega), ld_nI (by omega) (by decide), jb_at, ld_nI (by omega) (by decide), g1, g2]
          exact ⟨_, _, _, rfl, fr, rfl, by rw [← z31]; exact rel, by rw [← z31]; exact fz⟩
        · rw [if_neg c1, if_neg c1, jb_at, fr 0 (by omega), hk2, p_since hle b6 vb2 v12, c1_eq]
          exact ⟨_, _, _, rfl, fr, rfl, by rw [← z31]; exact rel, by rw [← z31]; exact fz⟩
    · rw [if_neg d1, if_neg d1]
      exact W_none h0 rfl rfl
  · rw [(p_has hB.1 a).2 d0, (q_isTask hz.1 a).2 d0]
    exact W_none h0 rfl rfl
theorem w_leastMoney {M : Mem} (h : Rel (M 0) (M 12 1)) (hi : Idle (M 12)) (a : Int32) : WGoal M (FX5_leastMoney M a) (FX6_leastMoney (M 12) a) := by
  have h0 := h
  obtain ⟨P, E, o, hR⟩ := h
  have hn := hR.n
  have hP := hR.1
  have hB := hR.2.2.1
  have hz := hR.2.1
  unfold FX5_leastMoney FX6_leastMoney
  by_cases d0 : inT (pn P) a
  · rw [(p_has hB.1 a).1 d0, (q_isTask hz.1 a).1 d0, c1_eq, c1_eq, if_neg (show ¬ (1 : Int32) = 0 by decide), if_neg (show ¬ (1 : Int32) = 0 by decide)]
    obtain ⟨t, ht, rfl⟩ := inT_of d0 (by omega)
    obtain ⟨du, hD⟩ := hR.du
    obtain ⟨k, hk1, hk2, hk3⟩ := hR.k
    obtain ⟨B1, c1', c2'⟩ := p_copyFrom (M 1) (M 0)
    obtain ⟨Z, hZ⟩ : ∃ Z, bc (M 12) 5 (cpz (M 12 5) (M 12 1) 0 356) = Z := ⟨_, rfl⟩
    have z1 : Z 1 = M 12 1 := by rw [← hZ, bc_ne (by omega)]
    have z5 : Z 5 = cpz (M 12 5) (M 12 1) 0 356 := by rw [← hZ, bc_at]
    have z0 : Z 0 = M 12 0 := by rw [← hZ, bc_ne (by omega)]
    obtain ⟨Z2, r1, r2, r3⟩ := reck (Z := Z) hP (by rw [z1]; exact hz) (held_none hP (hi.cg z0).1) hR.2.2.2.2.1 hR.2.2.2.1
    have z21 : Z2 1 = M 12 1 := by rw [r2 1 (by omega) (by omega), z1]
    obtain ⟨Z4, hZ4⟩ : ∃ Z4, bs Z2 1 (76 + t) 100000000 = Z4 := ⟨_, rfl⟩
    have z41 : Z4 1 = upd (M 12 1) (76 + t) 100000000 := by rw [← hZ4, b1_eq, z21]
    have hD4 : DU (upd (M 12 1) (76 + t) 100000000) (pn P) du := ⟨fun u hu => by rw [upd_ne (by omega)]; exact hD.1 u hu, hD.2⟩
    obtain ⟨B', z', L, du', k', b1, b2, b3, b4, b5, b6, b7⟩ := wb_core (M := M) (Z2 := Z4) (money_rel (v := 100000000) (hR.eqb c2') ht) z41 (by rw [← hZ4, bs_o (by omega)]; exact fun t ht => (r3 t ht).2) hD4 ht (by rw [upd_ne (by omega)]; exact hk3) hk1
    obtain ⟨Z3, hZ3⟩ : ∃ Z3, bc (bc Z4 9 L) 1 z' = Z3 := ⟨_, rfl⟩
    have z31 : Z3 1 = z' := by rw [← hZ3, bc_at]
    have e5 : Z3 5 = cpz (M 12 5) (M 12 1) 0 356 := by rw [← hZ3, bc_ne (by omega), bc_ne (by omega), ← hZ4, bs_o (by omega), r2 5 (by omega) (by omega), z5]
    have e8 : ∀ t, t < pn P → Z3 8 t = nI (E t) := by rw [← hZ3, bc_ne (by omega), bc_ne (by omega), ← hZ4, bs_o (by omega)]; exact fun t ht => (r3 t ht).2
    have g2 := (b3.2.2.2.2.2.2.2.2.1 t ht).2.1
    have hEt := hR.E_le ht
    have fz : Fz (M 12) (bc Z3 1 (cpz (Z3 1) (Z3 5) 0 356)) := by
      have f1 : Fz (M 12) Z := by rw [← hZ]; exact Fz.bc (Or.inr (Or.inl rfl))
      have f2 : Fz Z2 Z4 := by rw [← hZ4]; exact Fz.bs (Or.inl rfl)
      have f3 : Fz Z4 Z3 := by rw [← hZ3]; exact (Fz.bc (by omega)).trans (Fz.bc (Or.inl rfl))
      exact (((f1.trans (Fz.of78 r2)).trans f2).trans f3).trans (Fz.bc (Or.inl rfl))
    have rel : Rel (M 0) (bc Z3 1 (cpz (Z3 1) (Z3 5) 0 356) 1) := by
      rw [bc_at]
      exact ⟨P, E, o, hR.eqz (back_eq e5)⟩
    have fr : ∀ i, i ≠ 1 → jb (jb (jb M 1 B1) 1 (bs B1 17 t 100000000)) 1 B' i = M i := fun i hi => by rw [jb_ne hi, jb_ne hi, jb_ne hi]
    have ql := q_late (Z := Z3) hn e8 (fun t ht => by have := hR.E_le ht; omega) (by rw [z31]; exact b4) ht
    rw [c1', c1_eq, lt1_eq, stm_nI (by omega) (by decide), jb_at, jb_at, b1, c1_eq, lt1_eq, jb_at, p_lateOf b3 b4 ht, c1_eq, if_nIle0 (by omega), ld_nI (f := B' 17) (by omega) (by decide), g2, q_putAside, c1_eq, hZ, r1, c2_eq, k76, nI_add, stb_nI (by omega) (by decide), hZ4, b2, c1_eq, hZ3, ld_nI (f := Z3 1) (by omega) (by decide), z31, lt1_eq, ql, c1_eq, if_nI0 (by omega)]
    unfold FX6_leastMoney_61
    rw [q_bringBack, c1_eq, c1_eq, if_pos rfl, if_neg (show ¬ (1 : Int32) = 0 by decide)]
    by_cases c : E t - du' t = 0
    · rw [if_pos c, if_pos c]
      exact ⟨_, _, _, rfl, fr, rfl, rel, fz⟩
    · rw [if_neg c, if_neg c]
      exact ⟨_, _, _, rfl, fr, rfl, rel, fz⟩
  · rw [(p_has hB.1 a).2 d0, (q_isTask hz.1 a).2 d0]
    exact W_none h0 rfl rfl
theorem w_endIf {M : Mem} (h : Rel (M 0) (M 12 1)) (hi : Idle (M 12)) (a b c : Int32) : WGoal M (FX5_endIf M a b c) (FX6_endIf (M 12) a b c) := by
  have h0 := h
  obtain ⟨P, E, o, hR⟩ := h
  have hn := hR.n
  have hP := hR.1
  have hB := hR.2.2.1
  have hz := hR.2.1
  unfold FX5_endIf FX6_endIf
  by_cases d0 : inT (pn P) a
  · rw [(p_has hB.1 a).1 d0, (q_isTask hz.1 a).1 d0, c1_eq, c1_eq, if_neg (show ¬ (1 : Int32) = 0 by decide), if_neg (show ¬ (1 : Int32) = 0 by decide)]
    by_cases d1 : inT (pn P) b
    · rw [(p_has hB.1 b).1 d1, (q_isTask hz.1 b).1 d1, c1_eq, c1_eq, if_neg (show ¬ (1 : Int32) = 0 by decide), if_neg (show ¬ (1 : Int32) = 0 by decide)]
      obtain ⟨t, ht, rfl⟩ := inT_of d0 (by omega)
      obtain ⟨u, hu, rfl⟩ := inT_of d1 (by omega)
      obtain ⟨B1, c1', c2'⟩ := p_copyFrom (M 1) (M 0)
      have hR1 := hR.eqb c2'
      rw [c1', c1_eq, lt1_eq, jb_at, q_in, c1_eq, ite_bool]
      unfold FX2_changeDuration
      rw [(p_has hR1.2.2.1.1 (nI u)).1 d1, c1_eq, if_neg (show ¬ (1 : Int32) = 0 by decide), cin2]
      have fr : ∀ B', ∀ i, i ≠ 1 → jb (jb M 1 B1) 1 B' i = M i := fun B' i hi => by rw [jb_ne hi, jb_ne hi]
      by_cases d2 : 1 ≤ c ∧ c ≤ 100
      · rw [if_pos d2, if_pos d2]
        obtain ⟨k, hk0, hk, rfl⟩ := nI_btw (a := 1) (b := 100) (by decide) d2.1 d2.2 (by decide)
        have hrank : Rank P E := ends_rank hP (fun u hu => (hP.2.1 u hu).2.1) hR.2.2.2.1
        obtain ⟨B', f1, f2, E', od', f3⟩ := sched_ok (dur_pln hP hk0 hk) (dur_b hR1.2.2.1) hrank (dur_z hP hz hu) (Rest_frame hR1.2.2.2.2.2.2.2 (B' := bs B1 4 u (nI k)) (z' := upd (M 12 1) (28 + u) (nI k)) (by rw [bs_o (by omega)]) (by rw [bs_o (by omega)]) (by rw [bs_o (by omega)]) (fun o h1 h2 => bs_o (by omega)) (upd_ne (by omega)) (upd_ne (by omega)) (upd_ne (by omega)) (fun q hq => upd_ne (by omega)) hn)
        have hpd := hP.2.1 u hu
        have z1 : bs (M 12) 1 (28 + u) (nI k) 1 = upd (M 12 1) (28 + u) (nI k) := b1_eq
        have hi2 : Idle (bs (M 12) 1 (28 + u) (nI k)) := hi.cg (bs_o (by omega))
        obtain ⟨Z2, r1, r2, r3⟩ := reck (Z := bs (M 12) 1 (28 + u) (nI k)) f3.1 (by rw [z1]; exact f3.2.1) (held_none f3.1 hi2.1) f3.2.2.2.2.1 f3.2.2.2.1
        have z21 : Z2 1 = upd (M 12 1) (28 + u) (nI k) := by rw [r2 1 (by omega) (by omega), z1]
        rw [ld_nI (f := B1 4) (by omega) (by decide), stb_nI (by omega) (by decide), f1, c2_eq, c2_eq, (hR1.2.2.1.2.1 u hu).2.1, lt1_eq, if_pos (nI_pos' (by omega)), jb_at, p_endOf_x f3.2.2.1.1 hn ht, c1_eq, f3.2.2.2.2.2.1 t ht, k28, nI_add, ld_nI (f := M 12 1) (by omega) (by decide), stb_nI (by omega) (by decide), r1, c2_eq, stb_nI (by omega) (by decide), bs_o (o' := 8) (by omega), ld_nI (f := Z2 8) (by omega) (by decide), (r3 t ht).2]
        refine ⟨_, _, _, rfl, fr B', rfl, ⟨P, E, o, hR.eqz (fun q hq => ?_)⟩, ((Fz.bs (Or.inl rfl)).trans (Fz.of78 r2)).trans (Fz.bs (Or.inl rfl))⟩
        rw [b1_eq, z21, upd_eq, upd_eq]
        by_cases e : q = 28 + u
        · rw [if_pos e, e]
        · rw [if_neg e, if_neg e]
      · rw [if_neg d2, if_neg d2, c2_eq, lt1_eq, if_neg (show ¬ (0 : Int32) ≤ -2 by decide)]
        exact ⟨_, _, _, rfl, fr B1, rfl, h0, Fz.refl _⟩
    · rw [(p_has hB.1 b).2 d1, (q_isTask hz.1 b).2 d1]
      exact W_none h0 rfl rfl
  · rw [(p_has hB.1 a).2 d0, (q_isTask hz.1 a).2 d0]
    exact W_none h0 rfl rfl
