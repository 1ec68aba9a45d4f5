/-! carryOut -/
theorem Keep.trans {Z Z1 Z2 : Blk} (h : Keep Z Z1) (g : Keep Z1 Z2) : Keep Z Z2 := ⟨g.1.trans h.1, g.2.1.trans h.2.1, g.2.2.1.trans h.2.2.1, g.2.2.2.trans h.2.2.2⟩
theorem Keep.refl (Z : Blk) : Keep Z Z := ⟨rfl, rfl, rfl, rfl⟩
theorem execs {T : TX} (hT : TOK T) : ∀ (d k i f1 f2 : Nat) (M : Mem) (Z : Blk), Chn T (Z 11) d k i → k + d ≤ 41 → d ≤ f1 → d < f2 → i ≤ T.1 → XT T (M 11) → M 11 5 2 = nI i → Rel (M 0) (Z 1) → Idle Z → Z 0 6 = 1 → Z 0 16 = nI (k + d) →
    ∃ (c : Nat) (M' : Mem) (Z' : Blk), c ≤ 41 ∧ FX5_carryOrders_11 f1 (nI k) (nI k) M = some (nI c, M') ∧ FX6_carryOut_27 f2 (nI k) Z = FX6_carryOut_52 (nI c) Z' ∧ Rel (M' 0) (Z' 1) ∧ XF (M 11) (M' 11) ∧ (∀ j, j ≠ 0 → j ≠ 11 → M' j = M j) ∧ Keep Z Z' ∧ Z' 0 = Z 0 ∧ Z' 2 = Z 2 := by
  have hT1 := hT.1
  intro d
  induction d with
  | zero => intro k i f1 f2 M Z h; exact absurd h id
  | succ d ih =>
    intro k i f1 f2 M Z hC hk hf1 hf2 hi hX hX2 hR hI hq hm
    obtain ⟨f1, rfl⟩ : ∃ k, f1 = k + 1 := ⟨f1 - 1, by omega⟩
    obtain ⟨f2, rfl⟩ : ∃ k, f2 = k + 1 := ⟨f2 - 1, by omega⟩
    obtain ⟨e, y0, y1, y2⟩ := hC
    obtain ⟨X9, a1, a2⟩ := c_order hT hX hX2 hi
    obtain ⟨M10, hM10⟩ : ∃ M10, jb M 11 X9 = M10 := ⟨_, rfl⟩
    have m11 : M10 11 = X9 := by rw [← hM10, jb_at]
    have m0 : M10 0 = M 0 := by rw [← hM10, jb_ne (by omega)]
    have mo : ∀ j, j ≠ 11 → M10 j = M j := fun j hj => by rw [← hM10, jb_ne hj]
    obtain ⟨r, B', Z', x1, x2, x3, x4, x5, x6⟩ := exec1 (M := M10) (X := M 11) (k := k) hT (by rw [m11]; exact a2) e (by omega) (by rw [m0]; exact hR) hI hq y0 y1
    show ∃ (c : Nat) (M' : Mem) (Z' : Blk), c ≤ 41 ∧ FX5_carryOrders_11s _ _ _ _ = some (nI c, M') ∧ FX6_carryOut_27s _ _ _ = FX6_carryOut_52 (nI c) Z' ∧ _
    unfold FX5_carryOrders_11s FX6_carryOut_27s
    rw [show (80 : Int32) = nI 80 from rfl, le_nI (by omega) (by omega), if_neg (by omega), a1, c2_eq, lt1_eq, hM10, e, if_neg nI10, x1, c2_eq, hm, le_nI (by omega) (by omega), if_neg (show ¬ k + (d + 1) ≤ k by omega), e6 k, x2, c2_eq]
    obtain ⟨M15, hM15⟩ : ∃ M15, jb M10 0 B' = M15 := ⟨_, rfl⟩
    rw [hM15]
    have n11 : M15 11 = X9 := by rw [← hM15, jb_ne (by omega), m11]
    have n0 : M15 0 = B' := by rw [← hM15, jb_at]
    have no : ∀ j, j ≠ 0 → j ≠ 11 → M15 j = M j := fun j h0 h11 => by rw [← hM15, jb_ne h0, mo j h11]
    by_cases c0 : r < 0
    · rw [if_neg (Int32.not_le.mpr c0), if_pos c0]
      exact ⟨k, M15, Z', by omega, rfl, rfl, by rw [n0]; exact x3, by rw [n11]; exact a2.xf, no, x4, x5, x6⟩
    · rw [if_pos (Int32.not_lt.mp c0), if_neg c0, n11]
      simp only [lt1_eq]
      obtain ⟨X21, b1, b2⟩ := c_next hT hX a2 e
      rw [b1, c2_eq]
      obtain ⟨M22, hM22⟩ : ∃ M22, jb M15 11 X21 = M22 := ⟨_, rfl⟩
      rw [hM22]
      have o11 : M22 11 = X21 := by rw [← hM22, jb_at]
      have o0 : M22 0 = B' := by rw [← hM22, jb_ne (by omega), n0]
      have oo : ∀ j, j ≠ 0 → j ≠ 11 → M22 j = M j := fun j h0 h11 => by rw [← hM22, jb_ne h11, no j h0 h11]
      have i' : Idle Z' := hI.cg x5
      have z11 : Z' 11 = Z 11 := x4.2.2.2
      rcases y2 with ⟨d0, hc⟩ | ⟨d0, hc, hC'⟩
      · have ts : tSign T 59 (ordr T i) = (0, (ordr T i).2) := (if_neg (by omega)).trans (if_neg hc)
        rw [ts, if_pos nI00, nI_1]
        subst d0
        obtain ⟨f2, rfl⟩ : ∃ k, f2 = k + 1 := ⟨f2 - 1, by omega⟩
        refine ⟨k + 1, M22, Z', by omega, rfl, ?_, by rw [o0]; exact x3, by rw [o11]; exact b2.xf, oo, x4, x5, x6⟩
        show FX6_carryOut_27s _ _ _ = _
        unfold FX6_carryOut_27s
        rw [x5, hm, le_nI (by omega) (by omega), if_pos (by omega)]
      · have ts : tSign T 59 (ordr T i) = (1, (ordr T i).2.1 + 1, (ordr T i).2.2) := (if_neg (by omega)).trans (if_pos hc)
        have hin := ch_in (T := T) (i := (ordr T i).2.1) (by omega)
        rw [ts] at b2
        rw [ts, if_neg nI10, nI_1]
        obtain ⟨c, M', Zn, g0, g1, g2, g3, g4, g5, g6, g7, g8⟩ := ih (k + 1) ((ordr T i).2.1 + 1) f1 f2 M22 Z' (by rw [z11]; exact hC') (by omega) (by omega) (by omega) (by omega) (by rw [o11]; exact b2.xt hX) (by rw [o11]; exact b2.2.2.1) (by rw [o0]; exact x3) i' (by rw [x5]; exact hq) (by rw [x5, hm]; congr 1; omega)
        refine ⟨c, M', Zn, g0, g1, g2, g3, ?_, fun j h0 h11 => by rw [g5 j h0 h11, oo j h0 h11], x4.trans g6, g7.trans x5, g8.trans x6⟩
        rw [o11] at g4
        exact b2.xf.trans g4
theorem s_carryOut (M : Mem) (h : Inv M) : ∃ M' : Mem, LO_carryOut M = some M' ∧ Inv M' := by
  have h0 := h
  obtain ⟨hR, hi, h6, ⟨f, k, f1, f2, f3, hH⟩, hS, hP⟩ := h
  obtain ⟨T, r, X', Z', hT, hX, hZ, x1, x2, x3, x4, x5, x6⟩ := both_fault hP
  unfold LO_carryOut FX5_carryOut FX6_carryOut
  rw [x1, c2_eq, lt1_eq]
  obtain ⟨M4, hM4⟩ : ∃ M4, jb M 11 X' = M4 := ⟨_, rfl⟩
  have p11 : M4 11 = X' := by rw [← hM4, jb_at]
  have po : ∀ j, j ≠ 11 → M4 j = M j := fun j hj => by rw [← hM4, jb_ne hj]
  rw [hM4]
  by_cases c : r = -6
  · have hf := hH.1
    have hk := hH.2.1
    obtain ⟨n, n1, n2, n3, n4⟩ := x6 c
    have hm : (f + k) % 7 < 7 := Nat.mod_lt _ (by omega)
    have e31 : X' 3 1 = nI f := by rw [x4.1 3 (by omega) (by omega)]; exact f1
    have e32 : X' 3 2 = nI k := by rw [x4.1 3 (by omega) (by omega)]; exact f2
    obtain ⟨B4, b1, b2⟩ := p_prepare (M := M4) hf hk (by rw [p11]; exact e31) (by rw [p11]; exact e32)
    rw [po 0 (by omega)] at b2
    obtain ⟨M9, hM9⟩ : ∃ M9, jb M4 (4 + (f + k) % 7) B4 = M9 := ⟨_, rfl⟩
    rw [hM9] at b1
    have q11 : M9 11 = X' := by rw [← hM9, jb_ne (by omega), p11]
    have qo : ∀ j, j ≠ 11 → j ≠ 4 + (f + k) % 7 → M9 j = M j := fun j h1 h2 => by rw [← hM9, jb_ne h2, po j h1]
    have qs : M9 (4 + (f + k) % 7) = B4 := by rw [← hM9, jb_at]
    -- the model's record
    have z05 : Z' 0 5 = nI k := by rw [x5.2 5 (by omega) (by omega) (by omega)]; exact f3
    have z06 : Z' 0 6 = 0 := by rw [x5.2 6 (by omega) (by omega) (by omega)]; exact h6
    have z1 : Z' 1 = M 12 1 := x5.1 1 (by omega) (by omega)
    have z2 : Z' 2 = M 12 2 := x5.1 2 (by omega) (by omega)
    obtain ⟨ZR, r1, r2, r3⟩ := q_record (Z := Z') (Or.inr ⟨z06, k, hk, z05⟩)
    obtain ⟨Z8, hZ8⟩ : ∃ Z8, bs ZR 0 6 1 = Z8 := ⟨_, rfl⟩
    have w0 : ∀ j, j ≠ 6 → Z8 0 j = ZR 0 j := fun j hj => by rw [← hZ8, bs_kn hj]
    have wo : ∀ q, q ≠ 0 → Z8 q = ZR q := fun q hq => by rw [← hZ8, bs_o hq]
    have zr : ∀ j, j ≠ 5 → ZR 0 j = Z' 0 j := r2.1
    -- the orders
    obtain ⟨X1, hX1⟩ : ∃ X1, bs X' 5 2 0 = X1 := ⟨_, rfl⟩
    have xx1 : XF X' X1 := by rw [← hX1]; exact ⟨fun q h5 _ => bs_o h5, bs_kn (by omega)⟩
    obtain ⟨Ms, hMs⟩ : ∃ Ms, jb M9 11 X1 = Ms := ⟨_, rfl⟩
    have s11 : Ms 11 = X1 := by rw [← hMs, jb_at]
    have so : ∀ j, j ≠ 11 → Ms j = M9 j := fun j hj => by rw [← hMs, jb_ne hj]
    obtain ⟨cc, M12', Zx, g0, g1, g2, g3, g4, g5, g6, g7, g8⟩ := execs hT n 0 0 fu fu Ms Z8 (by rw [wo 11 (by omega), r3 11 (by omega) (by omega)]; exact n4) (by omega) (Nat.le_of_lt (fu_gt (by omega))) (fu_gt (by omega)) (Nat.zero_le _) (by rw [s11]; exact xx1.xt (x4.xt hX)) (by rw [s11, ← hX1, bs_kk]; rfl) (by rw [so 0 (by omega), qo 0 (by omega) (by omega), wo 1 (by omega), r3 1 (by omega) (by omega), z1]; exact hR) ⟨by rw [w0 11 (by omega), zr 11 (by omega), x5.2 11 (by omega) (by omega) (by omega)]; exact hi.1, by rw [w0 12 (by omega), zr 12 (by omega), x5.2 12 (by omega) (by omega) (by omega)]; exact hi.2⟩ (by rw [← hZ8, bs_kk]) (by rw [w0 16 (by omega), zr 16 (by omega), n3, Nat.zero_add])
    rw [s11] at g4
    have xf := (x4.trans xx1).trans g4
    obtain ⟨X15, hX15⟩ : ∃ X15, bs (M12' 11) 5 1 0 = X15 := ⟨_, rfl⟩
    obtain ⟨M16, hM16⟩ : ∃ M16, jb M12' 11 X15 = M16 := ⟨_, rfl⟩
    have t11 : M16 11 = X15 := by rw [← hM16, jb_at]
    have to' : ∀ j, j ≠ 11 → M16 j = M12' j := fun j hj => by rw [← hM16, jb_ne hj]
    have c3 : ∀ q, q ≠ 5 → q ≠ 7 → X15 q = M 11 q := fun q h5 h7 => by rw [← hX15, bs_o h5]; exact xf.1 q h5 h7
    have t31 : M16 11 3 1 = nI f := by rw [t11, c3 3 (by omega) (by omega)]; exact f1
    have t32 : M16 11 3 2 = nI k := by rw [t11, c3 3 (by omega) (by omega)]; exact f2
    have tj : ∀ j, j ≠ 0 → j ≠ 11 → j ≠ 4 + (f + k) % 7 → M16 j = M j := fun j h0 h11 h4 => by rw [to' j h11, g5 j h0 h11, so j h11, qo j h11 h4]
    have t4 : M16 (4 + (f + k) % 7) = B4 := by rw [to' _ (by omega), g5 _ (by omega) (by omega), so _ (by omega), qs]
    obtain ⟨ZE, hZE⟩ : ∃ ZE, bs (bs Zx 0 6 0) 0 8 0 = ZE := ⟨_, rfl⟩
    have v0 : ∀ j, j ≠ 6 → j ≠ 8 → ZE 0 j = ZR 0 j := fun j h6 h8 => by rw [← hZE, bs_kn h8, bs_kn h6, g7, w0 j h6]
    have v6 : ZE 0 6 = 0 := by rw [← hZE, bs_kn (by omega), bs_kk]
    have v8 : ZE 0 8 = 0 := by rw [← hZE, bs_kk]
    have vo : ∀ q, q ≠ 0 → ZE q = Zx q := fun q hq => by rw [← hZE, bs_o hq, bs_o hq]
    have v2 : ZE 2 = ZR 2 := by rw [vo 2 (by omega), g8, wo 2 (by omega)]
    have v3 : ZE 3 = M 12 3 := by rw [vo 3 (by omega), g6.1, wo 3 (by omega), r3 3 (by omega) (by omega), x5.1 3 (by omega) (by omega)]
    have v4 : ZE 4 = M 12 4 := by rw [vo 4 (by omega), g6.2.1, wo 4 (by omega), r3 4 (by omega) (by omega), x5.1 4 (by omega) (by omega)]
    -- the class's record
    have fin : ∀ (Xe : Blk) (f' k' : Nat), (∀ q, q ≠ 3 → Xe q = X15 q) → Xe 3 1 = nI f' → Xe 3 2 = nI k' → ZE 0 5 = nI k' → Hist (fun j => jb (jb M16 11 Xe) 12 ZE (4 + j)) f' k' (ZE 2) → Inv (jb (jb M16 11 Xe) 12 ZE) := by
      intro Xe f' k' he e1 e2 ez hH'
      have u11 : jb (jb M16 11 Xe) 12 ZE 11 = Xe := by rw [jb_ne (by omega), jb_at]
      refine ⟨?_, ?_, ?_, ⟨f', k', ?_, ?_, ?_, ?_⟩, fun s hs => ?_, ?_⟩
      · rw [jb_ne (by omega), jb_ne (by omega), jb_at, to' 0 (by omega), vo 1 (by omega)]; exact g3
      · rw [jb_at]
        exact ⟨by rw [v0 11 (by omega) (by omega), zr 11 (by omega), x5.2 11 (by omega) (by omega) (by omega)]; exact hi.1, by rw [v0 12 (by omega) (by omega), zr 12 (by omega), x5.2 12 (by omega) (by omega) (by omega)]; exact hi.2⟩
      · rw [jb_at]; exact v6
      · rw [u11]; exact e1
      · rw [u11]; exact e2
      · rw [jb_at]; exact ez
      · rw [jb_at]; exact hH'
      · rw [u11, jb_at, he 2 (by omega), c3 2 (by omega) (by omega), v3, v4, jb_ne (by omega), jb_ne (by omega), tj (2 + s) (by omega) (by omega) (by omega)]
        exact hS s hs
      · rw [u11, jb_at]
        exact ⟨0, by omega, by rw [he 5 (by omega), ← hX15, bs_kk]; rfl, v8, fun i hi => by omega⟩
    have hz05 : ZE 0 5 = ZR 0 5 := v0 5 (by omega) (by omega)
    have hpush := fun (Xe : Blk) => hH.cg (R' := fun j => M (4 + j)) (past' := Z' 2) (fun _ _ => rfl) (fun _ _ => by rw [z2]) |>.push (R' := fun j => jb (jb M16 11 Xe) 12 ZE (4 + j)) (Z := Z') (Z' := ZR) (B4 := B4) (z0 := Z' 1) (fun j hj hne => by
      show jb (jb M16 11 Xe) 12 ZE (4 + j) = M (4 + j)
      rw [jb_ne (by omega), jb_ne (by omega), tj (4 + j) (by omega) (by omega) (by omega)]) (by
      show jb (jb M16 11 Xe) 12 ZE (4 + (f + k) % 7) = B4
      rw [jb_ne (by omega), jb_ne (by omega), t4]) (by rw [z1]; exact hR.eqb b2) z05 z06 r2
    have unr : FX1_record M16 (nI cc) = if 6 ≤ k then some (nI cc, jb M16 11 (bs X15 3 1 (nI ((f + 1) % 7)))) else some (nI cc, jb M16 11 (bs X15 3 2 (nI (k + 1)))) := by
      unfold FX1_record
      rw [if_pos (Int32.not_lt.mp (nneg (by omega))), t31, t32, t11, k6, le_nI (by omega) (by omega), lt1_eq, lt1_eq, nI_1, nI_1, show (7 : Int32) = nI 7 from rfl, pk_rem (by omega) (by omega) (by omega)]
    have run : ∀ (Me : Mem), FX1_record M16 (nI cc) = some (nI cc, Me) → Me 12 = M 12 → (c2 (if r = -6 then
        c1 (FX1_prepare M4) fun M9 => c2 (FX5_carryOrders M9) fun r10 M12 => c2 (FX3_clear (M12 11)) fun r13 B15 => lt1 (jb M12 11 B15) fun M16 => c2 (FX1_record M16 r10) fun r18 M20 => some (r18, M20)
      else some (-3, M4)) fun r1 M1 => c2 (c1 (FX6_readPad (M1 12)) fun B3 => if (B3 0) 18 = -6 then c1 (FX6_record B3) fun B7 => lt1 (bs B7 0 6 1) fun B8 => FX6_carryOut_27 fu 0 B8 else some (-3, B3)) fun r2 Z => if r1 = r2 then some (jb M1 12 Z) else none) = some (jb Me 12 ZE) := by
      intro Me hrec he
      have s1 : FX5_carryOrders M9 = some (nI cc, M12') := by
        unfold FX5_carryOrders FX3_toStart
        rw [lt1_eq, c1_eq, lt1_eq, q11, hX1, hMs]
        exact g1
      have s2 : FX6_carryOut_27 fu 0 Z8 = some (nI cc, ZE) := by
        refine g2.trans ?_
        unfold FX6_carryOut_52
        rw [lt1_eq, lt1_eq, hZE]
      unfold FX3_clear
      rw [if_pos c, b1, c1_eq, s1, c2_eq, lt1_eq, lt1_eq, c2_eq, lt1_eq, hX15, hM16, hrec, c2_eq, c2_eq, he, x2, c1_eq, x3, if_pos c, r1, c1_eq, lt1_eq, hZ8, s2, c2_eq, if_pos rfl]
    have m12 : M16 12 = M 12 := tj 12 (by omega) (by omega) (by omega)
    rcases Nat.lt_or_ge k 6 with c1 | c1
    · refine ⟨_, run (jb M16 11 (bs X15 3 2 (nI (k + 1)))) (by rw [unr, if_neg (by omega)]) (by rw [jb_ne (by omega), m12]), ?_⟩
      rcases hpush (bs X15 3 2 (nI (k + 1))) with ⟨-, p1, p2⟩ | ⟨p0, -⟩
      · exact fin _ f (k + 1) (fun q hq => bs_o hq) (by rw [bs_kn (by omega), ← t11]; exact t31) bs_kk (by rw [hz05]; exact p1) (by rw [v2]; exact p2)
      · omega
    · have ek : k = 6 := by omega
      refine ⟨_, run (jb M16 11 (bs X15 3 1 (nI ((f + 1) % 7)))) (by rw [unr, if_pos (by omega)]) (by rw [jb_ne (by omega), m12]), ?_⟩
      rcases hpush (bs X15 3 1 (nI ((f + 1) % 7))) with ⟨p0, -⟩ | ⟨-, p1, p2⟩
      · omega
      · exact fin _ ((f + 1) % 7) 6 (fun q hq => bs_o hq) bs_kk (by rw [bs_kn (by omega), ← t11, t32, ek]) (by rw [hz05]; exact p1) (by rw [v2]; exact p2)
  · refine ⟨_, ?_, pad_step h0 (X := X') (Z := Z') (fun q h5 _ h7 => x4.1 q h5 h7) (fun q h0 _ h11 => x5.1 q h0 h11) (fun q _ h16 h17 h18 => x5.2 q h16 h17 h18) (text_pad hT (x4.xt hX) (x5.zt hZ))⟩
    rw [if_neg c, c2_eq, po 12 (by omega), x2, c1_eq, x3, if_neg c, c2_eq, if_pos rfl, ← hM4]
