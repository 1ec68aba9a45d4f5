/-! save and restore -/
theorem nar_b : vp_nar .boolean (1 : Int32) = 1 := rfl
theorem q_save {Z : Blk} {s : Nat} {v : Int32} (hs : s < 2) (h0 : Z 1 0 = v) : FX6_save_21 fu (nI s) (0 : Int32) Z = some (v, bc Z 3 (cpz (Z 3) (Z 1) (s * 356) 356)) := by
  have key : ∀ d i fuel, i + d = 356 → d < fuel → FX6_save_21 fuel (nI s) (nI i) (bc Z 3 (cpz (Z 3) (Z 1) (s * 356) i)) = some (v, bc Z 3 (cpz (Z 3) (Z 1) (s * 356) 356)) := by
    intro d
    induction d with
    | zero =>
      intro i fuel hi hf
      obtain ⟨q, rfl⟩ : ∃ q, fuel = q + 1 := ⟨fuel - 1, by omega⟩
      have e : i = 356 := by omega
      subst e
      show FX6_save_21s _ _ _ _ = _
      unfold FX6_save_21s
      rw [k356, le_nI (by omega) (by omega), if_pos (by omega), bc_ne (o' := 1) (by omega), k0, ld_nI (by omega) (by decide), h0]
    | succ d ih =>
      intro i fuel hi hf
      obtain ⟨q, rfl⟩ : ∃ q, fuel = q + 1 := ⟨fuel - 1, by omega⟩
      show FX6_save_21s _ _ _ _ = _
      unfold FX6_save_21s
      rw [k356, le_nI (by omega) (by omega), if_neg (by omega), bc_ne (o' := 1) (by omega), ld_nI (by omega) (by decide), pk_mul, nI_add, stb_nI (by omega) (by decide), lt1_eq, nI_1, bs_bc, cpz_s]
      exact ih (i + 1) q (by omega) (by omega)
  have := key 356 0 fu (by omega) (fu_gt (by omega))
  rw [cpz_0, bc_self] at this
  exact this
theorem q_rest {Z : Blk} {s : Nat} {v : Int32} (hs : s < 2) (h0 : Z 3 (s * 356) = v) : FX6_restore_30 fu (nI s) (0 : Int32) Z = some (v, bc Z 1 (cpz (Z 1) (fun x => Z 3 (s * 356 + x)) 0 356)) := by
  have key : ∀ d i fuel, i + d = 356 → d < fuel → FX6_restore_30 fuel (nI s) (nI i) (bc Z 1 (cpz (Z 1) (fun x => Z 3 (s * 356 + x)) 0 i)) = some (v, bc Z 1 (cpz (Z 1) (fun x => Z 3 (s * 356 + x)) 0 356)) := by
    intro d
    induction d with
    | zero =>
      intro i fuel hi hf
      obtain ⟨q, rfl⟩ : ∃ q, fuel = q + 1 := ⟨fuel - 1, by omega⟩
      have e : i = 356 := by omega
      subst e
      show FX6_restore_30s _ _ _ _ = _
      unfold FX6_restore_30s
      have := cpz_in (f := Z 1) (g := fun x => Z 3 (s * 356 + x)) (a := 0) (show 0 < 356 by omega)
      rw [k356, le_nI (by omega) (by omega), if_pos (by omega), k0, ld_nI (by omega) (by decide), bc_at, this, Nat.add_zero, h0]
    | succ d ih =>
      intro i fuel hi hf
      obtain ⟨q, rfl⟩ : ∃ q, fuel = q + 1 := ⟨fuel - 1, by omega⟩
      show FX6_restore_30s _ _ _ _ = _
      unfold FX6_restore_30s
      have := cpz_s (Z 1) (fun x => Z 3 (s * 356 + x)) 0 i
      rw [Nat.zero_add] at this
      rw [k356, le_nI (by omega) (by omega), if_neg (by omega), bc_ne (o' := 3) (by omega), pk_mul, nI_add, ld_nI (by omega) (by decide), stb_nI (by omega) (by decide), lt1_eq, nI_1, bs_bc, this]
      exact ih (i + 1) q (by omega) (by omega)
  have := key 356 0 fu (by omega) (fu_gt (by omega))
  rw [cpz_0, bc_self] at this
  exact this
theorem slot_in {a : Int32} {α : Type} {X Y : α} : (if a < 0 then X else if a < 2 then Y else X) = if 0 ≤ a ∧ a ≤ 1 then Y else X := by
  have e : (a < 2) ↔ a ≤ 1 := by
    rw [Int32.lt_iff_toInt_lt, Int32.le_iff_toInt_le, show (2 : Int32).toInt = 2 from rfl, show (1 : Int32).toInt = 1 from rfl]
    omega
  by_cases h1 : a < 0
  · rw [if_pos h1, if_neg (fun q => absurd q.1 (Int32.not_le.mpr h1))]
  · by_cases h2 : a ≤ 1
    · rw [if_neg h1, if_pos (e.mpr h2), if_pos ⟨Int32.not_lt.mp h1, h2⟩]
    · rw [if_neg h1, if_neg (fun q => h2 (e.mp q)), if_neg (fun q => h2 q.2)]
theorem s_save (M : Mem) (a : Int32) (h : Inv M) : ∃ M' : Mem, LO_save M a = some M' ∧ Inv M' := by
  have h0 := h
  obtain ⟨hR, hi, h6, ⟨f, k, f1, f2, f3, hH⟩, hS, hP⟩ := h
  unfold LO_save FX5_save FX6_save
  rw [slot_in]
  by_cases c : 0 ≤ a ∧ a ≤ 1
  · rw [if_pos c]
    obtain ⟨s, -, hs, rfl⟩ := nI_btw (a := 0) (b := 1) (by decide) c.1 c.2 (by decide)
    obtain ⟨B', b1, b2⟩ := p_copyFrom (M (2 + s)) (M 0)
    obtain ⟨Z2, hZ2⟩ : ∃ Z2, bs (M 12) 4 s 1 = Z2 := ⟨_, rfl⟩
    have z21 : Z2 1 = M 12 1 := by rw [← hZ2, bs_o (by omega)]
    have qs := q_save (Z := Z2) (s := s) (v := M 12 1 0) (by omega) (by rw [z21])
    obtain ⟨M2, hM2⟩ : ∃ M2, jb (jb M (2 + s) B') 11 (bs (M 11) 2 s 1) = M2 := ⟨_, rfl⟩
    have m11 : M2 11 = bs (M 11) 2 s 1 := by rw [← hM2, jb_at]
    have ms : M2 (2 + s) = B' := by rw [← hM2, jb_ne (by omega), jb_at]
    have mo : ∀ i, i ≠ 2 + s → i ≠ 11 → M2 i = M i := fun i h1 h2 => by rw [← hM2, jb_ne h2, jb_ne h1]
    have e0 : M 0 1 0 = M 12 1 0 := by
      obtain ⟨P, E, o, hR⟩ := hR
      rw [hR.2.2.1.1, hR.2.1.1]
    refine ⟨jb M2 12 (bc Z2 3 (cpz (Z2 3) (Z2 1) (s * 356) 356)), ?_, ?_, ?_, ?_, ⟨f, k, ?_, ?_, ?_, ?_⟩, fun u hu => ?_, ?_⟩
    · rw [gi_nI (by omega) (by decide), nI_clamp (by omega), b1, c1_eq, lt1_eq, stm_nI (by omega) (by decide), jb_ne (show 11 ≠ 2 + s by omega), nar_b, hM2, mo 0 (by omega) (by omega), c2_eq, mo 12 (by omega) (by omega), q_in, c1_eq, ite_bool, if_pos c, stb_nI (by omega) (by decide), hZ2, qs, c2_eq, if_pos e0]
    · rw [jb_ne (by omega), jb_at, bc_ne (by omega), z21, mo 0 (by omega) (by omega)]; exact hR
    · rw [jb_at]
      exact hi.cg (by rw [bc_ne (by omega), ← hZ2, bs_o (by omega)])
    · rw [jb_at, bc_ne (by omega), ← hZ2, bs_o (by omega)]; exact h6
    · rw [jb_ne (by omega), m11, bs_o (by omega)]; exact f1
    · rw [jb_ne (by omega), m11, bs_o (by omega)]; exact f2
    · rw [jb_at, bc_ne (by omega), ← hZ2, bs_o (by omega)]; exact f3
    · rw [jb_at, bc_ne (by omega), ← hZ2, bs_o (by omega)]
      exact hH.cg (fun i hi => by
        show jb M2 12 _ (4 + (f + i) % 7) = M (4 + (f + i) % 7)
        have := Nat.mod_lt (f + i) (show 0 < 7 by omega)
        rw [jb_ne (by omega), mo _ (by omega) (by omega)]) (fun _ _ => rfl)
    · rw [jb_at, jb_ne (show 11 ≠ 12 by omega), jb_ne (show 2 + u ≠ 12 by omega), m11, bc_ne (by omega), bc_at, ← hZ2]
      by_cases e : u = s
      · subst e
        rw [bs_kk, bs_kk, ms]
        refine ⟨rfl, Or.inr ⟨by decide, ?_⟩⟩
        rw [bs_o (by omega), bs_o (by omega)]
        refine (hR.eqb b2).eqz (fun x hx => ?_)
        show cpz (M 12 3) (M 12 1) (u * 356) 356 (356 * u + x) = M 12 1 x
        rw [Nat.mul_comm 356 u]
        exact cpz_in hx
      · rw [bs_kn e, bs_kn e, mo _ (by omega) (by omega), bs_o (by omega), bs_o (by omega)]
        obtain ⟨g1, g2⟩ := hS u hu
        refine ⟨g1, g2.imp id (fun q => ⟨q.1, q.2.eqz (fun x hx => ?_)⟩)⟩
        have : u = 0 ∧ s = 1 ∨ u = 1 ∧ s = 0 := by omega
        exact cpz_out (by omega)
    · rw [jb_at, jb_ne (show 11 ≠ 12 by omega), m11]
      obtain ⟨p, p1, p2, p3, p4⟩ := hP
      exact ⟨p, p1, by rw [bs_o (by omega)]; exact p2, by rw [bc_ne (by omega), ← hZ2, bs_o (by omega)]; exact p3, by rw [bs_o (by omega), bc_ne (by omega), ← hZ2, bs_o (by omega)]; exact p4⟩
  · refine ⟨_, ?_, rd_same h0 (fun _ _ _ => rfl)⟩
    rw [if_neg c, c2_eq, q_in, c1_eq, ite_bool, if_neg c, c2_eq, if_pos rfl]
theorem s_restore (M : Mem) (a : Int32) (h : Inv M) : ∃ M' : Mem, LO_restore M a = some M' ∧ Inv M' := by
  have h0 := h
  obtain ⟨hR, hi, h6, ⟨f, k, f1, f2, f3, hH⟩, hS, hP⟩ := h
  unfold LO_restore FX5_restore FX6_restore
  rw [slot_in]
  by_cases c : 0 ≤ a ∧ a ≤ 1
  · rw [if_pos c]
    obtain ⟨s, -, hs, rfl⟩ := nI_btw (a := 0) (b := 1) (by decide) c.1 c.2 (by decide)
    obtain ⟨g1, g2⟩ := hS s (by omega)
    rw [ld_nI (by omega) (by decide), g1]
    rcases g2 with g2 | ⟨g2, g3⟩
    · refine ⟨_, ?_, rd_same h0 (fun _ _ _ => rfl)⟩
      rw [if_pos g2, c2_eq, q_in, c1_eq, ite_bool, if_pos c, ld_nI (by omega) (by decide), if_pos g2, c2_eq, if_pos rfl]
    · obtain ⟨B', b1, b2⟩ := p_copyFrom (M 0) (M (2 + s))
      obtain ⟨ZR, q1, q2, q3⟩ := q_record h0.q
      have hrel : Rel B' (cpz (ZR 1) (fun x => ZR 3 (s * 356 + x)) 0 356) := by
        refine (g3.eqb b2).eqz (fun x hx => ?_)
        have := cpz_in (f := ZR 1) (g := fun x => ZR 3 (s * 356 + x)) (a := 0) hx
        rw [Nat.zero_add] at this
        rw [this, q3 3 (by omega) (by omega), Nat.mul_comm]
      have ev : ZR 3 (s * 356) = B' 1 0 ∧ ¬ B' 1 0 < 0 := by
        obtain ⟨P, E, o, hr⟩ := hrel
        have e1 := hr.2.1.1
        have := cpz_in (f := ZR 1) (g := fun x => ZR 3 (s * 356 + x)) (a := 0) (show 0 < 356 by omega)
        rw [Nat.zero_add, Nat.add_zero] at this
        rw [this] at e1
        rw [hr.2.2.1.1, e1]
        have := hr.n
        exact ⟨rfl, nneg (by omega)⟩
      have qr := q_rest (Z := ZR) (s := s) (v := B' 1 0) (by omega) ev.1
      have hg : OpGoal (M 0) (M 12) (some (B' 1 0, B')) (some (B' 1 0, bc ZR 1 (cpz (ZR 1) (fun x => ZR 3 (s * 356 + x)) 0 356))) :=
        MOp_ok hR q2 q3 (Fz.bc (Or.inl rfl)) ev.2 (by rw [bc_at]; exact hrel) rfl rfl
      obtain ⟨r, M1, M3, B6, Z, p1, p2, p3, p4, p5, p6, p7, p8⟩ := op_step h0 hg
      have e3 := Option.some.inj p3
      have e7 := Option.some.inj p7
      obtain ⟨e31, e32⟩ := Prod.mk.inj e3
      obtain ⟨-, e72⟩ := Prod.mk.inj e7
      subst e32 e72
      refine ⟨_, ?_, p8⟩
      rw [if_neg g2, p1, c1_eq, gi_nI (by omega) (by decide), nI_clamp (by omega), p2 0 (by omega), p2 (2 + s) (by omega), b1, c1_eq, lt1_eq, jb_at, e31, p4, c2_eq, c2_eq, p6, q_in, c1_eq, ite_bool, if_pos c, ld_nI (by omega) (by decide), if_neg g2, q1, c1_eq, qr, c2_eq, if_pos e31.symm]
  · refine ⟨_, ?_, rd_same h0 (fun _ _ _ => rfl)⟩
    rw [if_neg c, c2_eq, q_in, c1_eq, ite_bool, if_neg c, c2_eq, if_pos rfl]
