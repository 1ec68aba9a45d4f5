/-! fault; an order is carried out by both -/
theorem both_fault {X Z : Blk} (hP : PadOK X Z) : ∃ (T : TX) (r : Int32) (X' Z' : Blk), TOK T ∧ XT T X ∧ ZT T Z ∧ FX3_findFault X = some (r, X') ∧ FX6_readPad Z = some Z' ∧ Z' 0 18 = r ∧ XF X X' ∧ ZF Z Z' ∧ (r = -6 → ∃ n, 1 ≤ n ∧ n ≤ 41 ∧ Z' 0 16 = nI n ∧ Chn T (Z' 11) n 0 0) := by
  obtain ⟨T, hT, hX, hZ⟩ := pad_text hP
  obtain ⟨Z5, hZ5⟩ : ∃ Z5, bs (bs (bs Z 0 18 (-6)) 0 17 0) 0 16 0 = Z5 := ⟨_, rfl⟩
  have z5 : ZF Z Z5 := by rw [← hZ5]; exact ((ZF.bs (by omega)).trans (ZF.bs (by omega))).trans (ZF.bs (by omega))
  have x1 : XF X (bs X 5 2 0) := ⟨fun q h5 _ => bs_o h5, bs_kn (by omega)⟩
  obtain ⟨r, X', Z', g1, g2, g3, g4, g5, -, g7⟩ := scan hT 41 0 0 fu fu (bs X 5 2 0) Z5 (by omega) (by omega) (by omega) (fu_gt (by omega)) (fu_gt (by omega)) (x1.xt hX) bs_kk (z5.zt hZ) (by rw [← hZ5, bs_kn (by omega), bs_kk]; rfl) (by rw [← hZ5, bs_kn (by omega), bs_kn (by omega), bs_kk]) (by rw [← hZ5, bs_kk]; rfl)
  refine ⟨T, r, X', Z', hT, hX, hZ, ?_, ?_, g3, x1.trans g4, z5.trans g5, fun q => ?_⟩
  · unfold FX3_findFault FX3_toStart
    rw [lt1_eq, c1_eq]
    exact g1
  · unfold FX6_readPad
    rw [lt1_eq, lt1_eq, lt1_eq, hZ5]
    exact g2
  · obtain ⟨n, n1, n2, n3, n4⟩ := g7 q
    rw [Nat.zero_add] at n2 n3
    exact ⟨n, n1, n2, n3, n4⟩
theorem s_fault (M : Mem) (h : Inv M) : ∃ M' : Mem, LO_fault M = some M' ∧ Inv M' := by
  obtain ⟨T, r, X', Z', hT, hX, hZ, x1, x2, x3, x4, x5, -⟩ := both_fault h.2.2.2.2.2
  refine ⟨_, ?_, pad_step h (X := X') (Z := Z') (fun q h5 _ h7 => x4.1 q h5 h7) (fun q h0 _ h11 => x5.1 q h0 h11) (fun q _ h16 h17 h18 => x5.2 q h16 h17 h18) (text_pad hT (x4.xt hX) (x5.zt hZ))⟩
  unfold LO_fault FX5_fault FX6_fault
  rw [x1, c2_eq, lt1_eq, c2_eq, jb_ne (show (12 : Nat) ≠ 11 by omega), x2, c1_eq, c2_eq, x3, if_pos rfl]
/-- how many numbers a whole order has -/
theorem n_pair {T : TX} {c : Nat} {s : St} (h : (tPair T c s).1 = 1) (hs : s.1 = 1) : (tPair T c s).2.2.1 = s.2.2.1 + 2 := by
  have f1 := f01_num (T := T) (s := s) (Or.inr hs)
  have f2 := f01_sign (T := T) (c := c) f1
  have h' : (tNum T (tSign T c (tNum T s))).1 = 1 := h
  show (tNum T (tSign T c (tNum T s))).2.2.1 = _
  rcases n1_num h' with ⟨q1, q2⟩ | q1
  · have := s1_sign q1
    rw [q2, r_sign]
    rcases n1_num (T := T) (s := s) (by omega) with ⟨q3, q4⟩ | q3
    · omega
    · omega
  · omega
theorem n_sn {T : TX} {c : Nat} {s : St} (h : (tNum T (tSign T c s)).1 = 1) (hs : s.1 = 0 ∨ s.1 = 1) : s.1 = 1 ∧ (tNum T (tSign T c s)).2.2.1 = s.2.2.1 + 1 := by
  have f2 := f01_sign (T := T) (c := c) hs
  rcases n1_num h with ⟨q1, q2⟩ | q1
  · have := s1_sign q1
    rw [q2, r_sign]
    omega
  · omega
theorem n_opt {T : TX} {s : St} (h : (tOpt T s).1 = 1) (hs : s.1 = 0 ∨ s.1 = 1) : s.1 = 1 ∧ (tOpt T s).2.2.1 = s.2.2.1 + 1 := by
  unfold tOpt at h ⊢
  by_cases c1 : s.1 = 0
  · rw [if_pos c1] at h; omega
  · rw [if_neg c1] at h ⊢
    by_cases c2 : ch T s.2.1 = 94
    · rw [if_pos c2] at h ⊢
      rcases n1_num h with ⟨q1, q2⟩ | q1
      · exact ⟨by omega, q2⟩
      · exact absurd rfl q1.2
    · rw [if_neg c2]
      exact ⟨by omega, rfl⟩
theorem n_task {T : TX} {s : St} (h : (tTask T s).1 = 1) (hs : s.1 = 1) (hr : s.2.2.1 = 0) : (tTask T s).2.2.1 = 5 := by
  have f1 := f01_mach (T := T) (s := s) (Or.inr hs)
  have f2 := f01_num (T := T) (f01_sign (T := T) (c := 47) f1)
  have f3 := f01_num (T := T) (f01_sign (T := T) (c := 60) f2)
  have f4 := f01_num (T := T) (f01_sign (T := T) (c := 36) f3)
  have h' : (tOpt T (tNum T (tSign T 36 (tNum T (tSign T 60 (tNum T (tSign T 47 (tMach T s)))))))).1 = 1 := h
  show (tOpt T (tNum T (tSign T 36 (tNum T (tSign T 60 (tNum T (tSign T 47 (tMach T s)))))))).2.2.1 = 5
  obtain ⟨a1, a2⟩ := n_opt h' f4
  obtain ⟨b1, b2⟩ := n_sn a1 f3
  obtain ⟨d1, d2⟩ := n_sn b1 f2
  obtain ⟨g1, g2⟩ := n_sn d1 f1
  have := n1_mach g1 hs
  omega
theorem Pushed.quiet {Z Z' : Blk} {z0 : Nat → Int32} (h : Pushed Z Z' z0) (hq : Z 0 6 = 1) : Z' 0 = Z 0 ∧ Z' 2 = Z 2 := by
  rcases h.2 with ⟨-, e⟩ | ⟨e, -⟩
  · exact e
  · rw [hq] at e; exact absurd e (by decide)
/-- an order, whole, of both -/
theorem exec1 {T : TX} {X : Blk} {i k : Nat} {M : Mem} {Z : Blk} (hT : TOK T) (hX : XS T X (nI (ch T i)) (M 11) (ordr T i)) (hf : (ordr T i).1 = 1) (hk : k ≤ 40) (hR : Rel (M 0) (Z 1)) (hi : Idle Z) (hq : Z 0 6 = 1) (y0 : Z 11 (6 * k) = nI (ch T i)) (y1 : ∀ j, j < (ordr T i).2.2.1 → Z 11 (6 * k + 1 + j) = (ordr T i).2.2.2 j) :
    ∃ (r : Int32) (B' Z' : Blk), FX5_carryOrder M = some (r, jb M 0 B') ∧ FX6_does Z (nI (6 * k)) = some (r, Z') ∧ Rel B' (Z' 1) ∧ Keep Z Z' ∧ Z' 0 = Z 0 ∧ Z' 2 = Z 2 := by
  have hl := ch_le hT i
  have hkd : M 11 5 3 = nI (ch T i) := hX.2.2.2.1
  have arg : ∀ j, j < (ordr T i).2.2.1 → M 11 7 j = Z 11 (6 * k + 1 + j) := fun j hj => by rw [y1 j hj]; exact hX.2.2.2.2.2.2 j hj
  have use : ∀ (fc fm : Blk → Option (Int32 × Blk)), MOp fc fm → ∃ (r : Int32) (B' Z' : Blk), (c2 (fc (M 0)) fun r8 B10 => lt1 (jb M 0 B10) fun M11 => some (r8, M11)) = some (r, jb M 0 B') ∧ (c2 (fm Z) fun r11 B13 => some (r11, B13)) = some (r, Z') ∧ Rel B' (Z' 1) ∧ Keep Z Z' ∧ Z' 0 = Z 0 ∧ Z' 2 = Z 2 := by
    intro fc fm hm
    obtain ⟨r, B', Z', x1, x2, x3, x4, x5⟩ := hm (M 0) Z hR hi (Or.inl hq)
    refine ⟨r, B', Z', by rw [x1, c2_eq, lt1_eq], by rw [x2, c2_eq], x3, x4, ?_⟩
    rcases x5 with ⟨-, e1, e2⟩ | ⟨-, z0, -, e⟩
    · exact ⟨e1, e2⟩
    · exact e.quiet hq
  unfold FX5_carryOrder FX6_does
  rw [nI_1, ld_nI (by omega) (by decide), show (2 : Int32) = nI 2 from rfl, nI_add, ld_nI (by omega) (by decide), ld_nI (by omega) (by decide), y0, hkd]
  have q : ∀ (c : Nat) (n : Int32), n = nI c → c ≤ 126 → (nI (ch T i) = n ↔ ch T i = c) := fun c n hn h => by rw [hn]; exact nI_eq (by omega) (by omega)
  by_cases e1 : ch T i = 100
  · rw [if_pos ((q 100 100 rfl (by omega)).mpr e1), if_pos ((q 100 100 rfl (by omega)).mpr e1)]
    have hn : (ordr T i).2.2.1 = 2 := by
      have eo : ordr T i = tPair T 61 (st0 (i + 1)) := if_pos e1
      rw [eo] at hf ⊢
      rw [n_pair hf rfl]; rfl
    rw [k0, k1, ld_nI (by omega) (by decide), ld_nI (by omega) (by decide), arg 0 (by omega), arg 1 (by omega)]
    exact use _ _ (m_duration _ _)
  · rw [if_neg (fun x => e1 ((q 100 100 rfl (by omega)).mp x)), if_neg (fun x => e1 ((q 100 100 rfl (by omega)).mp x))]
    by_cases e2 : ch T i = 109
    · rw [if_pos ((q 109 109 rfl (by omega)).mpr e2), if_pos ((q 109 109 rfl (by omega)).mpr e2)]
      have hn : (ordr T i).2.2.1 = 2 := by
        have eo : ordr T i = tPair T 58 (st0 (i + 1)) := (if_neg e1).trans (if_pos e2)
        rw [eo] at hf ⊢
        rw [n_pair hf rfl]; rfl
      rw [k0, k1, ld_nI (by omega) (by decide), ld_nI (by omega) (by decide), arg 0 (by omega), arg 1 (by omega)]
      exact use _ _ (m_move _ _)
    · rw [if_neg (fun x => e2 ((q 109 109 rfl (by omega)).mp x)), if_neg (fun x => e2 ((q 109 109 rfl (by omega)).mp x))]
      by_cases e3 : ch T i = 111
      · rw [if_pos ((q 111 111 rfl (by omega)).mpr e3), if_pos ((q 111 111 rfl (by omega)).mpr e3)]
        have hn : (ordr T i).2.2.1 = 3 := by
          have eo : ordr T i = tNum T (tSign T 64 (tPair T 42 (st0 (i + 1)))) := (if_neg e1).trans ((if_neg e2).trans (if_pos e3))
          rw [eo] at hf ⊢
          obtain ⟨a1, a2⟩ := n_sn hf (f01_num (f01_sign (f01_num (Or.inr rfl))))
          rw [a2, n_pair a1 rfl]; rfl
        rw [k0, k1, ld_nI (by omega) (by decide), ld_nI (by omega) (by decide), ld_nI (by omega) (by decide), arg 0 (by omega), arg 1 (by omega), arg 2 (by omega), show (3 : Int32) = nI 3 from rfl, nI_add, ld_nI (by omega) (by decide)]
        exact use _ _ (m_offer _ _ _)
      · rw [if_neg (fun x => e3 ((q 111 111 rfl (by omega)).mp x)), if_neg (fun x => e3 ((q 111 111 rfl (by omega)).mp x))]
        by_cases e4 : ch T i = 114
        · rw [if_pos ((q 114 114 rfl (by omega)).mpr e4), if_pos ((q 114 114 rfl (by omega)).mpr e4)]
          have hn : (ordr T i).2.2.1 = 2 := by
            have eo : ordr T i = tPair T 42 (st0 (i + 1)) := (if_neg e1).trans ((if_neg e2).trans ((if_neg e3).trans (if_pos e4)))
            rw [eo] at hf ⊢
            rw [n_pair hf rfl]; rfl
          rw [k0, k1, ld_nI (by omega) (by decide), ld_nI (by omega) (by decide), arg 0 (by omega), arg 1 (by omega)]
          exact use _ _ (m_refund _ _)
        · rw [if_neg (fun x => e4 ((q 114 114 rfl (by omega)).mp x)), if_neg (fun x => e4 ((q 114 114 rfl (by omega)).mp x))]
          by_cases e5 : ch T i = 116
          · rw [if_pos ((q 116 116 rfl (by omega)).mpr e5), if_pos ((q 116 116 rfl (by omega)).mpr e5)]
            have hn : (ordr T i).2.2.1 = 5 := by
              have eo : ordr T i = tTask T (st0 (i + 1)) := (if_neg e1).trans ((if_neg e2).trans ((if_neg e3).trans ((if_neg e4).trans (if_pos e5))))
              rw [eo] at hf ⊢
              exact n_task hf rfl rfl
            rw [k0, k1, show (3 : Int32) = nI 3 from rfl, show (4 : Int32) = nI 4 from rfl, k5, nI_add, nI_add, nI_add, ld_nI (by omega) (by decide), ld_nI (by omega) (by decide), ld_nI (by omega) (by decide), ld_nI (by omega) (by decide), ld_nI (by omega) (by decide), arg 0 (by omega), arg 1 (by omega), arg 2 (by omega), arg 3 (by omega), arg 4 (by omega), ld_nI (by omega) (by decide), ld_nI (by omega) (by decide), ld_nI (by omega) (by decide)]
            exact use _ _ (m_task _ _ _ _ _)
          · rw [if_neg (fun x => e5 ((q 116 116 rfl (by omega)).mp x)), if_neg (fun x => e5 ((q 116 116 rfl (by omega)).mp x))]
            exact use _ _ m_trade
