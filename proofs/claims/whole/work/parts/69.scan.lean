/-! both read the whole text: the first fault -/
theorem p_sign {T : TX} {c : Nat} {s : St} : s.2.1 ≤ (tSign T c s).2.1 := by
  unfold tSign
  by_cases c1 : s.1 = 0
  · rw [if_pos c1]; omega
  · rw [if_neg c1]
    by_cases c2 : ch T s.2.1 = c
    · rw [if_pos c2]; exact Nat.le_succ _
    · rw [if_neg c2]; exact Nat.le_refl _
theorem p_num {T : TX} {s : St} : s.2.1 ≤ (tNum T s).2.1 := by
  unfold tNum
  by_cases c1 : s.1 = 0
  · rw [if_pos c1]; omega
  · rw [if_neg c1]
    by_cases c2 : isDg T s.2.1
    · rw [if_pos c2]; exact Nat.le_of_lt (nN_p c2).1
    · rw [if_neg c2]; exact Nat.le_refl _
theorem p_mach {T : TX} {s : St} : s.2.1 ≤ (tMach T s).2.1 := by
  unfold tMach
  by_cases c1 : s.1 = 0
  · rw [if_pos c1]; omega
  · rw [if_neg c1]
    by_cases c2 : 48 ≤ ch T s.2.1 ∧ ch T s.2.1 ≤ 51
    · rw [if_pos c2]; exact Nat.le_succ _
    · rw [if_neg c2]; exact Nat.le_refl _
theorem p_opt {T : TX} {s : St} : s.2.1 ≤ (tOpt T s).2.1 := by
  unfold tOpt
  by_cases c1 : s.1 = 0
  · rw [if_pos c1]; omega
  · rw [if_neg c1]
    by_cases c2 : ch T s.2.1 = 94
    · rw [if_pos c2]
      exact Nat.le_trans (Nat.le_succ _) (p_num (s := (1, s.2.1 + 1, s.2.2)))
    · rw [if_neg c2]; exact Nat.le_refl _
theorem p_pair {T : TX} {c : Nat} {s : St} : s.2.1 ≤ (tPair T c s).2.1 := Nat.le_trans p_num (Nat.le_trans p_sign p_num)
theorem ord1 {T : TX} {i : Nat} (h : (ordr T i).1 = 1) : i < T.1 ∧ i + 1 ≤ (ordr T i).2.1 := by
  unfold ordr at h ⊢
  by_cases e1 : ch T i = 100
  · rw [if_pos e1]; exact ⟨ch_in (by omega), p_pair (s := st0 (i + 1))⟩
  · rw [if_neg e1] at h ⊢
    by_cases e2 : ch T i = 109
    · rw [if_pos e2]; exact ⟨ch_in (by omega), p_pair (s := st0 (i + 1))⟩
    · rw [if_neg e2] at h ⊢
      by_cases e3 : ch T i = 111
      · rw [if_pos e3]; exact ⟨ch_in (by omega), Nat.le_trans (p_pair (s := st0 (i + 1))) (Nat.le_trans p_sign p_num)⟩
      · rw [if_neg e3] at h ⊢
        by_cases e4 : ch T i = 114
        · rw [if_pos e4]; exact ⟨ch_in (by omega), p_pair (s := st0 (i + 1))⟩
        · rw [if_neg e4] at h ⊢
          by_cases e5 : ch T i = 116
          · rw [if_pos e5]
            exact ⟨ch_in (by omega), Nat.le_trans (p_mach (s := st0 (i + 1))) (Nat.le_trans p_sign (Nat.le_trans p_num (Nat.le_trans p_sign (Nat.le_trans p_num (Nat.le_trans p_sign (Nat.le_trans p_num p_opt))))))⟩
          · rw [if_neg e5] at h ⊢
            by_cases e6 : ch T i = 120
            · refine ⟨ch_in (by omega), ?_⟩
              have : tSign T 120 (st0 i) = st0 (i + 1) := (if_neg (show ¬ (1 : Nat) = 0 by omega)).trans (if_pos e6)
              rw [this]
              exact Nat.le_refl _
            · have : tSign T 120 (st0 i) = (0, (st0 i).2) := (if_neg (show ¬ (1 : Nat) = 0 by omega)).trans (if_neg e6)
              rw [this] at h
              exact absurd h (show ¬ (0 : Nat) = 1 by omega)
theorem e6 (k : Nat) : (6 : Int32) * nI k = nI (6 * k) := by rw [show (6 : Int32) = nI 6 from rfl, pk_mul]
theorem r_opt {T : TX} {s : St} : (tOpt T s).2.2.1 ≤ s.2.2.1 + 1 := by
  unfold tOpt
  by_cases c1 : s.1 = 0
  · rw [if_pos c1]; omega
  · rw [if_neg c1]
    by_cases c2 : ch T s.2.1 = 94
    · rw [if_pos c2]
      exact r_num (s := (1, s.2.1 + 1, s.2.2))
    · rw [if_neg c2]; exact Nat.le_refl _
theorem r_pair {T : TX} {c : Nat} {s : St} : (tPair T c s).2.2.1 ≤ s.2.2.1 + 2 := by
  have g1 := r_num (T := T) (s := tSign T c (tNum T s))
  have g2 := r_num (T := T) (s := s)
  rw [r_sign] at g1
  show (tNum T (tSign T c (tNum T s))).2.2.1 ≤ _
  omega
theorem rmax (T : TX) (i : Nat) : (ordr T i).2.2.1 ≤ 5 := by
  have h0 : (st0 (i + 1)).2.2.1 = 0 := rfl
  have hp := fun c => r_pair (T := T) (c := c) (s := st0 (i + 1))
  unfold ordr
  by_cases e1 : ch T i = 100
  · rw [if_pos e1]; have := hp 61; omega
  · rw [if_neg e1]
    by_cases e2 : ch T i = 109
    · rw [if_pos e2]; have := hp 58; omega
    · rw [if_neg e2]
      by_cases e3 : ch T i = 111
      · rw [if_pos e3]
        have := hp 42
        have g := r_num (T := T) (s := tSign T 64 (tPair T 42 (st0 (i + 1))))
        rw [r_sign] at g
        omega
      · rw [if_neg e3]
        by_cases e4 : ch T i = 114
        · rw [if_pos e4]; have := hp 42; omega
        · rw [if_neg e4]
          by_cases e5 : ch T i = 116
          · rw [if_pos e5]
            have g1 := r_mach (T := T) (s := st0 (i + 1))
            have g2 := r_num (T := T) (s := tSign T 47 (tMach T (st0 (i + 1))))
            have g3 := r_num (T := T) (s := tSign T 60 (tNum T (tSign T 47 (tMach T (st0 (i + 1))))))
            have g4 := r_num (T := T) (s := tSign T 36 (tNum T (tSign T 60 (tNum T (tSign T 47 (tMach T (st0 (i + 1))))))))
            have g5 := r_opt (T := T) (s := tNum T (tSign T 36 (tNum T (tSign T 60 (tNum T (tSign T 47 (tMach T (st0 (i + 1)))))))))
            rw [r_sign] at g2 g3 g4
            show (tOpt T (tNum T (tSign T 36 (tNum T (tSign T 60 (tNum T (tSign T 47 (tMach T (st0 (i + 1)))))))))).2.2.1 ≤ 5
            omega
          · rw [if_neg e5, r_sign]
            exact Nat.zero_le _
def Chn (T : TX) (y : Nat → Int32) : Nat → Nat → Nat → Prop
  | 0, _, _ => False
  | d + 1, k, i => (ordr T i).1 = 1 ∧ y (6 * k) = nI (ch T i) ∧ (∀ j, j < (ordr T i).2.2.1 → y (6 * k + 1 + j) = (ordr T i).2.2.2 j) ∧ ((d = 0 ∧ ch T (ordr T i).2.1 ≠ 59) ∨ (0 < d ∧ ch T (ordr T i).2.1 = 59 ∧ Chn T y d (k + 1) ((ordr T i).2.1 + 1)))
def ZF (Z Z' : Blk) : Prop := (∀ q, q ≠ 0 → q ≠ 11 → Z' q = Z q) ∧ ∀ j, j ≠ 16 → j ≠ 17 → j ≠ 18 → Z' 0 j = Z 0 j
def XF (X X' : Blk) : Prop := (∀ q, q ≠ 5 → q ≠ 7 → X' q = X q) ∧ X' 5 1 = X 5 1
theorem ZF.trans {Z Z1 Z2 : Blk} (h : ZF Z Z1) (g : ZF Z1 Z2) : ZF Z Z2 := ⟨fun q h0 h1 => (g.1 q h0 h1).trans (h.1 q h0 h1), fun j h0 h1 h2 => (g.2 j h0 h1 h2).trans (h.2 j h0 h1 h2)⟩
theorem XF.trans {X X1 X2 : Blk} (h : XF X X1) (g : XF X1 X2) : XF X X2 := ⟨fun q h0 h1 => (g.1 q h0 h1).trans (h.1 q h0 h1), g.2.trans h.2⟩
theorem XF.xt {T : TX} {X X' : Blk} (h : XF X X') (g : XT T X) : XT T X' := ⟨by rw [h.2]; exact g.1, fun i hi => by rw [h.1 6 (by omega) (by omega)]; exact g.2 i hi⟩
theorem ZF.zt {T : TX} {Z Z' : Blk} (h : ZF Z Z') (g : ZT T Z) : ZT T Z' := ⟨by rw [h.2 8 (by omega) (by omega) (by omega)]; exact g.1, fun i hi => by rw [h.1 6 (by omega) (by omega)]; exact g.2 i hi⟩
theorem XS.xf {T : TX} {X X' : Blk} {kd : Int32} {s : St} (h : XS T X kd X' s) : XF X X' := ⟨h.1, h.2.1⟩
theorem ZS.zf {T : TX} {Z Z' : Blk} {k b : Nat} {kd : Int32} {s : St} (h : ZS T Z k kd Z' s b) : ZF Z Z' := ⟨h.1, fun j _ h7 h8 => h.2.1 j h7 h8⟩
theorem ZF.bs {Z : Blk} {j : Nat} {v : Int32} (h : j = 16 ∨ j = 17 ∨ j = 18) : ZF Z (bs Z 0 j v) := ⟨fun q h0 _ => bs_o h0, fun x h1 h2 h3 => bs_kn (by omega)⟩
theorem c_next {T : TX} {X0 X : Blk} {kd : Int32} {s : St} (hT : TOK T) (h0 : XT T X0) (h : XS T X0 kd X s) (hf : s.1 = 1) : ∃ X' : Blk, FX3_readNext X = some (nI (tSign T 59 s).1, X') ∧ XS T X0 kd X' (tSign T 59 s) := by
  obtain ⟨X1, a1, a2⟩ := c_sign (c := 59) hT h0 h hf (by omega)
  refine ⟨X1, ?_, a2⟩
  unfold FX3_readNext
  rw [show (59 : Int32) = nI 59 from rfl, a1, c2_eq]
  rcases f01_sign (T := T) (c := 59) (Or.inr hf) with e | e
  · rw [e]; rfl
  · rw [e]; rfl
/-- the end of the model's loop -/
theorem m_exit {T : TX} {Z : Blk} (hT : TOK T) (hZ : ZT T Z) {fuel : Nat} (hf : 0 < fuel) {w : Int32} (hw : Z 0 18 = w) (h : w = -6 ∨ ∃ j, j ≤ T.1 ∧ w = nI j) : FX6_readPad_18 fuel 0 Z = some (bs Z 0 18 w) := by
  have hT1 := hT.1
  obtain ⟨k, rfl⟩ : ∃ k, fuel = k + 1 := ⟨fuel - 1, by omega⟩
  show FX6_readPad_18s _ _ _ = _
  unfold FX6_readPad_18s FX6_readPad_120
  rw [if_pos rfl, hw, hZ.1]
  rcases h with e | ⟨j, hj, e⟩
  · rw [e, if_pos (Int32.le_of_lt (by
      rw [Int32.lt_iff_toInt_lt, nI_toInt (by omega), show (-6 : Int32).toInt = -6 from rfl]
      omega)), lt1_eq]
  · rw [e, le_nI (by omega) (by omega), if_pos hj, lt1_eq]
theorem scan {T : TX} (hT : TOK T) : ∀ (d k i f1 f2 : Nat) (X Z : Blk), k + d = 41 → 2 * k ≤ i → i ≤ T.1 → d < f1 → d + 1 < f2 → XT T X → X 5 2 = nI i → ZT T Z → Z 0 17 = nI i → Z 0 18 = -6 → Z 0 16 = nI k →
    ∃ (r : Int32) (X' Z' : Blk), FX3_findFault_6 f1 (nI k) X = some (r, X') ∧ FX6_readPad_18 f2 1 Z = some Z' ∧ Z' 0 18 = r ∧ XF X X' ∧ ZF Z Z' ∧ (∀ x, x < 6 * k → Z' 11 x = Z 11 x) ∧ (r = -6 → ∃ n, 1 ≤ n ∧ k + n ≤ 41 ∧ Z' 0 16 = nI (k + n) ∧ Chn T (Z' 11) n k i) := by
  have hT1 := hT.1
  intro d
  induction d with
  | zero => intro k i f1 f2 X Z hk hi; omega
  | succ d ih =>
    intro k i f1 f2 X Z hk hki hi hf1 hf2 hX hX2 hZ hZ17 hZ18 hZ16
    obtain ⟨f1, rfl⟩ : ∃ k, f1 = k + 1 := ⟨f1 - 1, by omega⟩
    obtain ⟨f2, rfl⟩ : ∃ k, f2 = k + 1 := ⟨f2 - 1, by omega⟩
    show ∃ (r : Int32) (X' Z' : Blk), FX3_findFault_6s _ _ _ = some (r, X') ∧ FX6_readPad_18s _ _ _ = some Z' ∧ _
    unfold FX3_findFault_6s FX6_readPad_18s
    obtain ⟨X8, a1, a2⟩ := c_order hT hX hX2 hi
    obtain ⟨Z13, b1, b2⟩ := m_order hT hZ hZ17 hi hZ18 (show k ≤ 41 by omega)
    have g16 : Z13 0 16 = nI k := by rw [b2.2.1 16 (by omega) (by omega)]; exact hZ16
    rw [show (80 : Int32) = nI 80 from rfl, le_nI (by omega) (by omega), if_neg (by omega), a1, c2_eq, if_neg (show ¬ (1 : Int32) = 0 by decide), hZ16, e6 k, b1, c1_eq, lt1_eq, g16, nI_1]
    obtain ⟨Z14, hZ14⟩ : ∃ Z14, bs Z13 0 16 (nI (k + 1)) = Z14 := ⟨_, rfl⟩
    rw [hZ14]
    have f14 : ZF Z Z14 := by rw [← hZ14]; exact b2.zf.trans (ZF.bs (by omega))
    have z14 : ZT T Z14 := f14.zt hZ
    have e18 : Z14 0 18 = Z13 0 18 := by rw [← hZ14, bs_kn (by omega)]
    have e17 : Z14 0 17 = Z13 0 17 := by rw [← hZ14, bs_kn (by omega)]
    have e16 : Z14 0 16 = nI (k + 1) := by rw [← hZ14, bs_kk]
    have e11 : Z14 11 = Z13 11 := by rw [← hZ14, bs_o (by omega)]
    have hpos : (ordr T i).2.1 ≤ T.1 := b2.2.2.2.2.2.2.1
    rcases b2.f01 with e | e
    · -- a fault in the order
      rw [e, if_pos nI00]
      have w : Z14 0 18 = nI (ordr T i).2.1 := by
        rcases b2.2.2.2.2.2.1 with ⟨q, -⟩ | ⟨-, q⟩
        · omega
        · rw [e18]; exact q
      rw [w, if_neg (m6_ne (by omega))]
      unfold FX6_readPad_67 FX6_readPad_68
      rw [if_pos rfl, m_exit hT z14 (by omega) w (Or.inr ⟨_, hpos, rfl⟩)]
      refine ⟨_, X8, _, rfl, rfl, by rw [bs_kk]; exact a2.2.2.1.symm, a2.xf, f14.trans (ZF.bs (by omega)), fun x hx => ?_, fun q => ?_⟩
      · rw [bs_o (by omega), e11]; exact b2.2.2.1 x hx
      · rw [a2.2.2.1] at q
        exact absurd q (m6_ne (by omega))
    · -- the order is whole
      have o1 := ord1 e
      obtain ⟨X12, c1', c2'⟩ := c_next hT hX a2 e
      have w : Z14 0 18 = -6 := by
        rcases b2.2.2.2.2.2.1 with ⟨-, q⟩ | ⟨q, -⟩
        · rw [e18]; exact q
        · omega
      have sp : Z14 0 17 = nI (ordr T i).2.1 := by
        obtain ⟨m, m1, m2, m3⟩ := b2.2.2.2.2.1
        rw [e17, m2, m3 e]
      have hkd : Z14 11 (6 * k) = nI (ch T i) := by
        rw [e11, b2.2.2.2.1]
        unfold lt ch
        rw [if_pos o1.1, if_pos o1.1]
      have harg : ∀ j, j < (ordr T i).2.2.1 → Z14 11 (6 * k + 1 + j) = (ordr T i).2.2.2 j := by
        rw [e11]; exact b2.2.2.2.2.2.2.2 e
      rw [e, if_neg nI10, c1', c2_eq, w, if_pos rfl, z14.1, sp, le_nI (by omega) (by omega)]
      by_cases c : ch T (ordr T i).2.1 = 59
      · have hin := ch_in (T := T) (i := (ordr T i).2.1) (by omega)
        have ts : tSign T 59 (ordr T i) = (1, (ordr T i).2.1 + 1, (ordr T i).2.2) := (if_neg (by omega)).trans (if_pos c)
        rw [ts] at c2' ⊢
        rw [if_neg nI10, if_neg (by omega), lt1_eq]
        have zs : ZS T Z14 (k + 1) (Z14 11 (6 * (k + 1))) Z14 (1, (ordr T i).2.1, 0, fun _ => 0) 80 := ⟨fun _ _ _ => rfl, fun _ _ _ => rfl, fun _ _ => rfl, rfl, ⟨_, by omega, sp, fun _ => rfl⟩, Or.inl ⟨rfl, w⟩, hpos, fun _ j hj => absurd hj (Nat.not_lt_zero j)⟩
        obtain ⟨Z20, d1, d2⟩ := m_takes (c := 59) hT z14 zs (by omega) (by omega)
        have ts2 : tSign T 59 ((1, (ordr T i).2.1, 0, fun _ => 0) : St) = (1, (ordr T i).2.1 + 1, 0, fun _ => 0) := (if_neg (show ¬ (1 : Nat) = 0 by omega)).trans (if_pos c)
        rw [ts2] at d2
        have w2 : Z20 0 18 = -6 := (w6 hT d2).1 rfl
        have sp2 : Z20 0 17 = nI ((ordr T i).2.1 + 1) := by
          obtain ⟨m, m1, m2, m3⟩ := d2.2.2.2.2.1
          rw [m2, m3 rfl]
        unfold FX6_readPad_68
        rw [if_neg (show ¬ (1 : Int32) = 0 by decide), show (59 : Int32) = nI 59 from rfl, d1, c1_eq, w2, if_pos rfl]
        obtain ⟨r, X', Z', g1, g2, g3, g4, g5, g6, g7⟩ := ih (k + 1) ((ordr T i).2.1 + 1) f1 f2 X12 Z20 (by omega) (by omega) (by omega) (by omega) (by omega) (c2'.xt hX) c2'.2.2.1 (d2.zf.zt z14) sp2 w2 (by rw [d2.2.1 16 (by omega) (by omega)]; exact e16)
        refine ⟨r, X', Z', g1, g2, g3, c2'.xf.trans g4, (f14.trans d2.zf).trans g5, fun x hx => ?_, fun q => ?_⟩
        · rw [g6 x (by omega), d2.2.2.1 x (by omega), e11]; exact b2.2.2.1 x hx
        · obtain ⟨n, n1, n2, n3, n4⟩ := g7 q
          refine ⟨n + 1, by omega, by omega, by rw [n3]; congr 1; omega, e, ?_, fun j hj => ?_, Or.inr ⟨by omega, c, n4⟩⟩
          · rw [g6 _ (by omega), d2.2.2.1 _ (by omega)]; exact hkd
          · have := rmax T i
            rw [g6 _ (by omega), d2.2.2.1 _ (by omega)]; exact harg j hj
      · have ts : tSign T 59 (ordr T i) = (0, (ordr T i).2) := (if_neg (by omega)).trans (if_neg c)
        rw [ts] at c2' ⊢
        rw [if_pos nI00]
        unfold FX3_findFault_40
        have x1 : X12 5 1 = nI T.1 := (c2'.xt hX).1
        have x2 : X12 5 2 = nI (ordr T i).2.1 := c2'.2.2.1
        rw [x1, x2, le_nI (by omega) (by omega)]
        by_cases c3 : T.1 ≤ (ordr T i).2.1
        · rw [if_pos c3, if_pos c3]
          unfold FX6_readPad_67 FX6_readPad_68
          rw [if_pos rfl, m_exit hT z14 (by omega) w (Or.inl rfl)]
          refine ⟨_, X12, _, rfl, rfl, bs_kk, c2'.xf, f14.trans (ZF.bs (by omega)), fun x hx => ?_, fun _ => ⟨1, by omega, by omega, ?_, e, ?_, fun j hj => ?_, Or.inl ⟨rfl, c⟩⟩⟩
          · rw [bs_o (by omega), e11]; exact b2.2.2.1 x hx
          · rw [bs_kn (by omega)]; exact e16
          · rw [bs_o (by omega)]; exact hkd
          · rw [bs_o (by omega)]; exact harg j hj
        · rw [if_neg c3, if_neg c3]
          have zs : ZS T Z14 (k + 1) (Z14 11 (6 * (k + 1))) Z14 (1, (ordr T i).2.1, 0, fun _ => 0) 80 := ⟨fun _ _ _ => rfl, fun _ _ _ => rfl, fun _ _ => rfl, rfl, ⟨_, by omega, sp, fun _ => rfl⟩, Or.inl ⟨rfl, w⟩, hpos, fun _ j hj => absurd hj (Nat.not_lt_zero j)⟩
          obtain ⟨Z20, d1, d2⟩ := m_takes (c := 59) hT z14 zs (by omega) (by omega)
          have ts2 : tSign T 59 ((1, (ordr T i).2.1, 0, fun _ => 0) : St) = (0, (ordr T i).2.1, 0, fun _ => 0) := (if_neg (show ¬ (1 : Nat) = 0 by omega)).trans (if_neg c)
          rw [ts2] at d2
          have w2 : Z20 0 18 = nI (ordr T i).2.1 := by
            rcases d2.2.2.2.2.2.1 with ⟨q, -⟩ | ⟨-, q⟩
            · exact absurd q (show ¬ (0 : Nat) = 1 by omega)
            · exact q
          unfold FX6_readPad_68
          rw [if_neg (show ¬ (1 : Int32) = 0 by decide), show (59 : Int32) = nI 59 from rfl, d1, c1_eq, w2, if_neg (m6_ne (by omega)), m_exit hT (d2.zf.zt z14) (by omega) w2 (Or.inr ⟨_, hpos, rfl⟩)]
          refine ⟨_, X12, _, rfl, rfl, bs_kk, c2'.xf, (f14.trans d2.zf).trans (ZF.bs (by omega)), fun x hx => ?_, fun q => absurd q (m6_ne (by omega))⟩
          rw [bs_o (by omega), d2.2.2.1 x (by omega), e11]; exact b2.2.2.1 x hx
