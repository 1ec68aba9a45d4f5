/-! the calls, one by one (texts apart) -/
theorem Inv.q {M : Mem} (h : Inv M) : QH (M 12) := by
  obtain ⟨-, -, h6, ⟨f, k, -, -, f3, hH⟩, -⟩ := h
  exact Or.inr ⟨h6, k, hH.2.1, f3⟩
theorem op_lo {fc fm : Blk → Option (Int32 × Blk)} (hm : MOp fc fm) {M : Mem} (hI : Inv M) : ∃ M' : Mem, (c2 (c1 (FX1_prepare M) fun M3 => c2 (fc (M3 0)) fun r4 B6 => lt1 (jb M3 0 B6) fun M7 => c2 (FX1_record M7 r4) fun r9 M11 => some (r9, M11)) fun r1 M1 => c2 (fm (M1 12)) fun r2 Z => if r1 = r2 then some (jb M1 12 Z) else none) = some M' ∧ Inv M' := by
  obtain ⟨r, M1, M3, B6, Z, p1, p2, p3, p4, -, p6, p7, p8⟩ := op_step hI (hm (M 0) (M 12) hI.1 hI.2.1 hI.q)
  refine ⟨jb M1 12 Z, ?_, p8⟩
  rw [p1, c1_eq, p2 0 (by omega), p3, c2_eq, lt1_eq, p4, c2_eq, c2_eq, p6, p7, c2_eq, if_pos rfl]
theorem s_set (M : Mem) (a1 a2 : Int32) (h : Inv M) : ∃ M' : Mem, LO_set M a1 a2 = some M' ∧ Inv M' := op_lo (m_set a1 a2) h
theorem s_task (M : Mem) (a1 a2 a3 a4 a5 : Int32) (h : Inv M) : ∃ M' : Mem, LO_task M a1 a2 a3 a4 a5 = some M' ∧ Inv M' := op_lo (m_task a1 a2 a3 a4 a5) h
theorem s_duration (M : Mem) (a1 a2 : Int32) (h : Inv M) : ∃ M' : Mem, LO_duration M a1 a2 = some M' ∧ Inv M' := op_lo (m_duration a1 a2) h
theorem s_move (M : Mem) (a1 a2 : Int32) (h : Inv M) : ∃ M' : Mem, LO_move M a1 a2 = some M' ∧ Inv M' := op_lo (m_move a1 a2) h
theorem s_offer (M : Mem) (a1 a2 a3 : Int32) (h : Inv M) : ∃ M' : Mem, LO_offer M a1 a2 a3 = some M' ∧ Inv M' := op_lo (m_offer a1 a2 a3) h
theorem s_trade (M : Mem) (h : Inv M) : ∃ M' : Mem, LO_trade M = some M' ∧ Inv M' := op_lo m_trade h
theorem s_refund (M : Mem) (a1 a2 : Int32) (h : Inv M) : ∃ M' : Mem, LO_refund M a1 a2 = some M' ∧ Inv M' := op_lo (m_refund a1 a2) h
theorem s_give (M : Mem) (a1 a2 a3 : Int32) (h : Inv M) : ∃ M' : Mem, LO_give M a1 a2 a3 = some M' ∧ Inv M' := op_lo (m_give a1 a2 a3) h
theorem s_ofTask (M : Mem) (a1 a2 : Int32) (h : Inv M) : ∃ M' : Mem, LO_ofTask M a1 a2 = some M' ∧ Inv M' := by
  obtain ⟨r, B', Z', x1, x2, x3, x4⟩ := r_ofTask h.1 h.2.1 a1 a2
  refine ⟨_, ?_, rd_step h x3 x4⟩
  unfold LO_ofTask FX5_ofTask
  rw [x1, c2_eq, lt1_eq, c2_eq, jb_ne (show (12 : Nat) ≠ 0 by omega), x2, c2_eq, if_pos rfl]
theorem s_due (M : Mem) (a1 : Int32) (h : Inv M) : ∃ M' : Mem, LO_due M a1 = some M' ∧ Inv M' := by
  obtain ⟨P, E, o, hR⟩ := h.1
  have hn := hR.n
  refine ⟨M, ?_, h⟩
  unfold LO_due FX5_due FX6_due
  by_cases d0 : inT (pn P) a1
  · rw [(p_has hR.2.2.1.1 a1).1 d0, (q_isTask hR.2.1.1 a1).1 d0, c1_eq, c1_eq, if_neg (show ¬ (1 : Int32) = 0 by decide), if_neg (show ¬ (1 : Int32) = 0 by decide)]
    obtain ⟨t, ht, rfl⟩ := inT_of d0 (by omega)
    rw [ld_nI (by omega) (by decide), c1_eq, k52, nI_add, ld_nI (by omega) (by decide), c1_eq, (hR.2.2.2.2.2.2.2.2.1 t ht).1, if_pos rfl]
  · rw [(p_has hR.2.2.1.1 a1).2 d0, (q_isTask hR.2.1.1 a1).2 d0]
    rfl
theorem s_money (M : Mem) (a1 : Int32) (h : Inv M) : ∃ M' : Mem, LO_money M a1 = some M' ∧ Inv M' := by
  obtain ⟨P, E, o, hR⟩ := h.1
  have hn := hR.n
  refine ⟨M, ?_, h⟩
  unfold LO_money FX5_money FX6_money
  by_cases d0 : inT (pn P) a1
  · rw [(p_has hR.2.2.1.1 a1).1 d0, (q_isTask hR.2.1.1 a1).1 d0, c1_eq, c1_eq, if_neg (show ¬ (1 : Int32) = 0 by decide), if_neg (show ¬ (1 : Int32) = 0 by decide)]
    obtain ⟨t, ht, rfl⟩ := inT_of d0 (by omega)
    rw [ld_nI (by omega) (by decide), c1_eq, k76, nI_add, ld_nI (by omega) (by decide), c1_eq, (hR.2.2.2.2.2.2.2.2.1 t ht).2.1, if_pos rfl]
  · rw [(p_has hR.2.2.1.1 a1).2 d0, (q_isTask hR.2.1.1 a1).2 d0]
    rfl
theorem s_at (M : Mem) (a1 a2 : Int32) (h : Inv M) : ∃ M' : Mem, LO_at M a1 a2 = some M' ∧ Inv M' := by
  obtain ⟨r, x1, x2⟩ := r_at h.1 a1 a2
  refine ⟨M, ?_, h⟩
  unfold LO_at
  rw [x1, c1_eq, x2, c1_eq, if_pos rfl]
theorem s_ofContract (M : Mem) (a1 a2 : Int32) (h : Inv M) : ∃ M' : Mem, LO_ofContract M a1 a2 = some M' ∧ Inv M' := by
  obtain ⟨r, x1, x2⟩ := r_ofContract h.1 a1 a2
  refine ⟨M, ?_, h⟩
  unfold LO_ofContract FX5_ofContract
  rw [x1, c1_eq, c1_eq, x2, c1_eq, if_pos rfl]
theorem rd_same {M : Mem} (h : Inv M) {Z : Blk} (hz : ∀ q, q ≠ 7 → q ≠ 8 → Z q = M 12 q) : Inv (jb M 12 Z) := by
  have := rd_step h (B' := M 0) (Z := Z) (by rw [hz 1 (by omega) (by omega)]; exact h.1) (Fz.of78 hz)
  rw [jb_self] at this
  exact this
theorem s_count (M : Mem) (a1 : Int32) (h : Inv M) : ∃ M' : Mem, LO_count M a1 = some M' ∧ Inv M' := by
  have h' := h
  obtain ⟨-, -, -, ⟨f, k, -, f2, f3, -⟩, -, ⟨p, -, p1, p2, -⟩⟩ := h'
  rcases r_count h.1 h.2.1 a1 with ⟨e, Z', z1, z2⟩ | ⟨e, Z', z1, z2⟩ | ⟨e1, e2, r, Z', z1, z2, z3⟩
  · refine ⟨_, ?_, rd_same h z1⟩
    unfold LO_count FX5_count
    rw [if_pos e, c1_eq, z2, c2_eq, if_pos (by rw [p1, p2])]
  · refine ⟨_, ?_, rd_same h z1⟩
    unfold LO_count FX5_count
    rw [if_neg (by rw [e]; decide), if_pos e, c1_eq, z2, c2_eq, if_pos (by rw [f2, f3])]
  · refine ⟨_, ?_, rd_same h z1⟩
    unfold LO_count FX5_count
    rw [if_neg e1, if_neg e2, z3, c1_eq, c1_eq, z2, c2_eq, if_pos rfl]
theorem s_distance (M : Mem) (a1 a2 : Int32) (h : Inv M) : ∃ M' : Mem, LO_distance M a1 a2 = some M' ∧ Inv M' := by
  obtain ⟨P, E, o, hR⟩ := h.1
  have hn := hR.n
  have same : Inv (jb M 12 (M 12)) := rd_same h (fun _ _ _ => rfl)
  unfold LO_distance FX5_distance FX6_distance
  by_cases d0 : inT (pn P) a1
  · rw [(p_has hR.2.2.1.1 a1).1 d0, c1_eq, if_neg (show ¬ (1 : Int32) = 0 by decide)]
    by_cases d1 : inT (pn P) a2
    · obtain ⟨t, ht, rfl⟩ := inT_of d0 (by omega)
      obtain ⟨u, hu, rfl⟩ := inT_of d1 (by omega)
      obtain ⟨L, L', x1, x2, x3⟩ := r_dist hR ht hu
      refine ⟨jb (jb M 0 (bc (M 0) 11 L)) 12 (bc (M 12) 9 L'), ?_, rd_step h ⟨P, E, o, by rw [bc_ne (by omega)]; exact hR.o11 L⟩ (Fz.bc (by omega))⟩
      rw [(p_has hR.2.2.1.1 (nI u)).1 d1, c1_eq, if_neg (show ¬ (1 : Int32) = 0 by decide), x1, c1_eq, lt1_eq, jb_at, bc_at, ld_nI (by omega) (by decide), c2_eq, jb_ne (show (12 : Nat) ≠ 0 by omega), (q_isTask hR.2.1.1 (nI t)).1 d0, c1_eq, if_neg (show ¬ (1 : Int32) = 0 by decide), (q_isTask hR.2.1.1 (nI u)).1 d1, c1_eq, if_neg (show ¬ (1 : Int32) = 0 by decide), x2, c1_eq, bc_at, ld_nI (by omega) (by decide), c2_eq, if_pos x3]
    · refine ⟨_, ?_, same⟩
      rw [(p_has hR.2.2.1.1 a2).2 d1, c1_eq, if_pos rfl, c2_eq, (q_isTask hR.2.1.1 a1).1 d0, c1_eq, if_neg (show ¬ (1 : Int32) = 0 by decide), (q_isTask hR.2.1.1 a2).2 d1, c1_eq, if_pos rfl, c2_eq, if_pos rfl]
  · refine ⟨_, ?_, same⟩
    rw [(p_has hR.2.2.1.1 a1).2 d0, c1_eq, if_pos rfl, c2_eq, (q_isTask hR.2.1.1 a1).2 d0, c1_eq, if_pos rfl, c2_eq, if_pos rfl]
theorem wi_lo {M : Mem} (hI : Inv M) {F5 : Option (Int32 × Mem)} {fm : Blk → Option (Int32 × Blk)} (h : WGoal M F5 (fm (M 12))) : ∃ M' : Mem, (c2 F5 fun r1 M1 => c2 (fm (M1 12)) fun r2 Z => if r1 = r2 then some (jb M1 12 Z) else none) = some M' ∧ Inv M' := by
  obtain ⟨r, M1, Z, x1, x2, x3, x4, x5⟩ := h
  refine ⟨_, ?_, wi_step hI x2 x4 x5⟩
  rw [x1, c2_eq, x2 12 (by omega), x3, c2_eq, if_pos rfl]
theorem s_wouldBuy (M : Mem) (a1 a2 : Int32) (h : Inv M) : ∃ M' : Mem, LO_wouldBuy M a1 a2 = some M' ∧ Inv M' := wi_lo (fm := fun Z => FX6_wouldBuy Z a1 a2) h (w_wouldBuy h.1 h.2.1 a1 a2)
theorem s_leastMoney (M : Mem) (a1 : Int32) (h : Inv M) : ∃ M' : Mem, LO_leastMoney M a1 = some M' ∧ Inv M' := wi_lo (fm := fun Z => FX6_leastMoney Z a1) h (w_leastMoney h.1 h.2.1 a1)
theorem s_endIf (M : Mem) (a1 a2 a3 : Int32) (h : Inv M) : ∃ M' : Mem, LO_endIf M a1 a2 a3 = some M' ∧ Inv M' := wi_lo (fm := fun Z => FX6_endIf Z a1 a2 a3) h (w_endIf h.1 h.2.1 a1 a2 a3)
theorem s_bestPlace (M : Mem) (a1 : Int32) (h : Inv M) : ∃ M' : Mem, LO_bestPlace M a1 = some M' ∧ Inv M' := wi_lo (fm := fun Z => FX6_bestPlace Z a1) h (w_bestPlace h.1 h.2.1 a1)
theorem s_lateBehind (M : Mem) (h : Inv M) : ∃ M' : Mem, LO_lateBehind M = some M' ∧ Inv M' := wi_lo (fm := fun Z => FX6_lateBehind Z) h (w_lateBehind h.1 h.2.1)
theorem s_critical (M : Mem) (h : Inv M) : ∃ M' : Mem, LO_critical M = some M' ∧ Inv M' := by
  obtain ⟨r, Z', x1, x2, x3⟩ := r_critical h.1 h.2.1
  refine ⟨_, ?_, rd_same h x3⟩
  unfold LO_critical FX5_critical
  rw [x1, c1_eq, c1_eq, x2, c2_eq, if_pos rfl]
theorem q_undo {Z : Blk} {k : Nat} (hk : k < 6) (h5 : Z 0 5 = nI k) : FX6_undo_22 fu (0 : Int32) Z = some (nI k, bc Z 1 (cpz (Z 1) (fun x => Z 2 (k * 356 + x)) 0 356)) := by
  have key : ∀ d i fuel, i + d = 356 → d < fuel → FX6_undo_22 fuel (nI i) (bc Z 1 (cpz (Z 1) (fun x => Z 2 (k * 356 + x)) 0 i)) = some (nI k, bc Z 1 (cpz (Z 1) (fun x => Z 2 (k * 356 + x)) 0 356)) := by
    intro d
    induction d with
    | zero =>
      intro i fuel hi hf
      obtain ⟨q, rfl⟩ : ∃ q, fuel = q + 1 := ⟨fuel - 1, by omega⟩
      have e : i = 356 := by omega
      subst e
      show FX6_undo_22s _ _ _ = _
      unfold FX6_undo_22s
      rw [k356, le_nI (by omega) (by omega), if_pos (by omega), bc_ne (o' := 0) (by omega), h5]
    | succ d ih =>
      intro i fuel hi hf
      obtain ⟨q, rfl⟩ : ∃ q, fuel = q + 1 := ⟨fuel - 1, by omega⟩
      show FX6_undo_22s _ _ _ = _
      unfold FX6_undo_22s
      have := cpz_s (Z 1) (fun x => Z 2 (k * 356 + x)) 0 i
      rw [Nat.zero_add] at this
      rw [k356, le_nI (by omega) (by omega), if_neg (by omega), bc_ne (o' := 2) (by omega), bc_ne (o' := 0) (by omega), h5, pk_mul, nI_add, ld_nI (by omega) (by decide), stb_nI (by omega) (by decide), lt1_eq, nI_1, bs_bc, this]
      exact ih (i + 1) q (by omega) (by omega)
  have := key 356 0 fu (by omega) (fu_gt (by omega))
  rw [cpz_0, bc_self] at this
  exact this
theorem s_undo (M : Mem) (h : Inv M) : ∃ M' : Mem, LO_undo M = some M' ∧ Inv M' := by
  have h0 := h
  obtain ⟨hR, hi, h6, ⟨f, k, f1, f2, f3, hH⟩, hS, hP⟩ := h
  have hf := hH.1
  have hk := hH.2.1
  unfold LO_undo FX5_undo FX1_takeBack FX6_undo
  rw [f2, if_nI0 (by omega)]
  by_cases c : k = 0
  · refine ⟨_, ?_, rd_same h0 (fun _ _ _ => rfl)⟩
    rw [if_pos c, c2_eq, c2_eq, f3, if_pos (by rw [c]; rfl), c2_eq, if_pos rfl]
  · rw [if_neg c, nI_sub1 c, lt1_eq]
    have hm : (f + (k - 1)) % 7 < 7 := Nat.mod_lt _ (by omega)
    obtain ⟨B', b1, b2⟩ := p_copyFrom (M 0) (M (4 + (f + (k - 1)) % 7))
    have hq := hH.2.2 (k - 1) (by omega)
    obtain ⟨Z2, hZ2⟩ : ∃ Z2, bs (M 12) 0 5 (nI (k - 1)) = Z2 := ⟨_, rfl⟩
    have u := q_undo (Z := Z2) (k := k - 1) (by omega) (by rw [← hZ2]; exact bs_kk)
    obtain ⟨M2, hM2⟩ : ∃ M2, jb (jb M 11 (bs (M 11) 3 2 (nI (k - 1)))) 0 B' = M2 := ⟨_, rfl⟩
    have m11 : M2 11 = bs (M 11) 3 2 (nI (k - 1)) := by rw [← hM2, jb_ne (by omega), jb_at]
    have m12 : M2 12 = M 12 := by rw [← hM2, jb_ne (by omega), jb_ne (by omega)]
    have mo : ∀ i, i ≠ 0 → i ≠ 11 → M2 i = M i := fun i h1 h2 => by rw [← hM2, jb_ne h1, jb_ne h2]
    refine ⟨jb M2 12 (bc Z2 1 (cpz (Z2 1) (fun x => Z2 2 ((k - 1) * 356 + x)) 0 356)), ?_, ?_, ?_, ?_, ⟨f, k - 1, ?_, ?_, ?_, ?_⟩, fun s hs => ?_, ?_⟩
    · rw [jb_at, bs_kn (by omega), f1, bs_kk, ring_ix hf (by omega), gi_nI hm (by decide), nI_clamp (by omega), jb_ne (show (0 : Nat) ≠ 11 by omega), jb_ne (show 4 + (f + (k - 1)) % 7 ≠ 11 by omega), b1, c1_eq, lt1_eq, hM2, m11, bs_kk, c2_eq, c2_eq, m12, f3, if_nI0 (by omega), if_neg c, nI_sub1 c, lt1_eq, hZ2, u, c2_eq, if_pos rfl]
    · rw [jb_ne (by omega), jb_at, bc_at, ← hM2, jb_at]
      have e2 : Z2 2 = M 12 2 := by rw [← hZ2, bs_o (by omega)]
      refine (hq.eqb b2).eqz (fun x hx => ?_)
      have := cpz_in (f := Z2 1) (g := fun x => Z2 2 ((k - 1) * 356 + x)) (a := 0) hx
      rw [Nat.zero_add] at this
      rw [this]
      show Z2 2 ((k - 1) * 356 + x) = M 12 2 (356 * (k - 1) + x)
      rw [e2, Nat.mul_comm]
    · rw [jb_at]
      exact ⟨by rw [bc_ne (by omega), ← hZ2, bs_kn (by omega)]; exact hi.1, by rw [bc_ne (by omega), ← hZ2, bs_kn (by omega)]; exact hi.2⟩
    · rw [jb_at, bc_ne (by omega), ← hZ2, bs_kn (by omega)]; exact h6
    · rw [jb_ne (by omega), m11, bs_kn (by omega)]; exact f1
    · rw [jb_ne (by omega), m11, bs_kk]
    · rw [jb_at, bc_ne (by omega), ← hZ2, bs_kk]
    · have hH2 : Hist (fun j => M (4 + j)) f (k - 1) (M 12 2) := ⟨hf, by omega, fun i hi => hH.2.2 i (by omega)⟩
      rw [jb_at, bc_ne (by omega), ← hZ2, bs_o (by omega)]
      exact hH2.cg (fun i hi => by
        show jb M2 12 _ (4 + (f + i) % 7) = M (4 + (f + i) % 7)
        rw [jb_ne (by omega), mo _ (by omega) (by omega)]) (fun _ _ => rfl)
    · rw [jb_at, jb_ne (show 11 ≠ 12 by omega), jb_ne (show 2 + s ≠ 12 by omega), m11, bs_o (by omega), mo _ (by omega) (by omega), bc_ne (by omega), bc_ne (by omega), ← hZ2, bs_o (by omega), bs_o (by omega)]
      exact hS s hs
    · rw [jb_at, jb_ne (show 11 ≠ 12 by omega), m11]
      obtain ⟨p, p1, p2, p3, p4⟩ := hP
      exact ⟨p, p1, by rw [bs_o (by omega)]; exact p2, by rw [bc_ne (by omega), ← hZ2, bs_kn (by omega)]; exact p3, by rw [bs_o (by omega), bc_ne (by omega), ← hZ2, bs_o (by omega)]; exact p4⟩
