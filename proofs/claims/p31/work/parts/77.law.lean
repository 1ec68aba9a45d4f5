/-! the law, from the first memory on -/
def P0 : PD := (0, fun _ => 0, fun _ => 0, fun _ => 0, fun _ => 0)
def y0 : Nat → Nat := fun k => if k = 1 then 50 else if k = 2 then 2 else 0
theorem st_0 : StB mB0 P0 (fun _ => 0) (fun _ => 0) y0 := by
  refine StB.plan (B := mB0) ⟨Nat.zero_le _, fun t ht => absurd ht (Nat.not_lt_zero t), fun t u ht => absurd ht (Nat.not_lt_zero t), fun m p _ hp => absurd hp (Nat.not_lt_zero p)⟩ ⟨rfl, fun t ht => absurd ht (Nat.not_lt_zero t), fun m _ => rfl, fun t ht => absurd ht (Nat.not_lt_zero t)⟩ (fun t ht => absurd ht (Nat.not_lt_zero t)) ⟨fun t ht => absurd ht (Nat.not_lt_zero t), fun t ht => absurd ht (Nat.not_lt_zero t), fun t u ht => absurd ht (Nat.not_lt_zero t), fun t ht => absurd ht (Nat.not_lt_zero t)⟩ (fun t ht => absurd ht (Nat.not_lt_zero t)) (fun t ht => absurd ht (Nat.not_lt_zero t)) ⟨rfl, rfl, rfl, fun t ht => absurd ht (Nat.not_lt_zero t), fun c hc => absurd hc (Nat.not_lt_zero c)⟩ ⟨by decide, by decide, by decide, by decide, by decide, fun t ht => absurd ht (Nat.not_lt_zero t), fun c hc => absurd hc (Nat.not_lt_zero c)⟩
theorem b_set {B : Blk} {P : PD} {E o y : Nat → Nat} (h : StB B P E o y) : (∀ r, 1 ≤ r → r ≤ 9 → ∃ B' : Blk, FX2_changeSetting B 1 (nI r) = some (nI (y 2), B') ∧ StB B' P E o (u1 y 2 r)) ∧ ∀ r, r ≤ 100 → ∃ B' : Blk, FX2_changeSetting B 0 (nI r) = some (nI (y 1), B') ∧ StB B' P E o (u1 y 1 r) := by
  have hn := h.n
  obtain ⟨g1, g2, g3, g4, g5, g6, g7⟩ := h.2
  obtain ⟨b1, b2, b3, b4, b5⟩ := h.by
  refine ⟨fun r r1 r2 => ?_, fun r r1 => ?_⟩
  · have e3 : u1 y 2 r 3 = y 3 := by (repeat (first | rw [u1_ne (by omega)] | rw [u1_at]))
    refine ⟨bs B 0 3 (nI r), ?_, h.mk (fun q hq => by (repeat (first | rw [bs_o (by omega)] | rw [bs_kk] | rw [bs_kn (by omega)]))) ⟨?_, ?_, ?_, fun t ht => ?_, fun c hc => ?_⟩ ⟨?_, ?_, ?_, ?_, ?_, fun t ht => ?_, fun c hc => ?_⟩⟩
    · unfold FX2_changeSetting FX2_changeSetting_27
      rw [if_neg (show ¬ (1 : Int32) = 0 by decide), if_pos rfl, k1, lt_nI (by omega) (by decide), if_neg (by omega), show (9 : Int32) = nI 9 from rfl, lt_nI (by decide) (by omega), if_neg (by omega), lt1_eq, lt1_eq, b2]
    · (repeat (first | rw [bs_o (by omega)] | rw [bs_kk] | rw [bs_kn (by omega)])); (repeat (first | rw [u1_ne (by omega)] | rw [u1_at])); exact b1
    · (repeat (first | rw [bs_o (by omega)] | rw [bs_kk] | rw [bs_kn (by omega)])); (repeat (first | rw [u1_ne (by omega)] | rw [u1_at]))
    · (repeat (first | rw [bs_o (by omega)] | rw [bs_kk] | rw [bs_kn (by omega)])); (repeat (first | rw [u1_ne (by omega)] | rw [u1_at])); exact b3
    · (repeat (first | rw [bs_o (by omega)] | rw [bs_kk] | rw [bs_kn (by omega)])); (repeat (first | rw [u1_ne (by omega)] | rw [u1_at])); exact b4 t ht
    · rw [e3] at hc
      (repeat (first | rw [bs_o (by omega)] | rw [bs_kk] | rw [bs_kn (by omega)])); (repeat (first | rw [u1_ne (by omega)] | rw [u1_at])); exact b5 c hc
    · (repeat (first | rw [u1_ne (by omega)] | rw [u1_at])); exact g1
    · (repeat (first | rw [u1_ne (by omega)] | rw [u1_at])); exact ⟨r1, r2⟩
    · rw [e3]; exact g3
    · rw [sumN_congr (g := fun t => y (52 + t)) (fun u hu => by (repeat (first | rw [u1_ne (by omega)] | rw [u1_at])))]; exact g4
    · rw [sumN_congr (g := fun t => y (76 + t)) (fun u hu => by (repeat (first | rw [u1_ne (by omega)] | rw [u1_at])))]; exact g5
    · (repeat (first | rw [u1_ne (by omega)] | rw [u1_at])); exact g6 t ht
    · rw [e3] at hc
      (repeat (first | rw [u1_ne (by omega)] | rw [u1_at])); exact g7 c hc
  · have e3 : u1 y 1 r 3 = y 3 := by (repeat (first | rw [u1_ne (by omega)] | rw [u1_at]))
    refine ⟨bs B 0 2 (nI r), ?_, h.mk (fun q hq => by (repeat (first | rw [bs_o (by omega)] | rw [bs_kk] | rw [bs_kn (by omega)]))) ⟨?_, ?_, ?_, fun t ht => ?_, fun c hc => ?_⟩ ⟨?_, ?_, ?_, ?_, ?_, fun t ht => ?_, fun c hc => ?_⟩⟩
    · unfold FX2_changeSetting
      rw [if_pos rfl, if_neg (nneg (by omega)), show (100 : Int32) = nI 100 from rfl, lt_nI (by decide) (by omega), if_neg (by omega), lt1_eq, lt1_eq, b1]
    · (repeat (first | rw [bs_o (by omega)] | rw [bs_kk] | rw [bs_kn (by omega)])); (repeat (first | rw [u1_ne (by omega)] | rw [u1_at]))
    · (repeat (first | rw [bs_o (by omega)] | rw [bs_kk] | rw [bs_kn (by omega)])); (repeat (first | rw [u1_ne (by omega)] | rw [u1_at])); exact b2
    · (repeat (first | rw [bs_o (by omega)] | rw [bs_kk] | rw [bs_kn (by omega)])); (repeat (first | rw [u1_ne (by omega)] | rw [u1_at])); exact b3
    · (repeat (first | rw [bs_o (by omega)] | rw [bs_kk] | rw [bs_kn (by omega)])); (repeat (first | rw [u1_ne (by omega)] | rw [u1_at])); exact b4 t ht
    · rw [e3] at hc
      (repeat (first | rw [bs_o (by omega)] | rw [bs_kk] | rw [bs_kn (by omega)])); (repeat (first | rw [u1_ne (by omega)] | rw [u1_at])); exact b5 c hc
    · (repeat (first | rw [u1_ne (by omega)] | rw [u1_at])); exact r1
    · (repeat (first | rw [u1_ne (by omega)] | rw [u1_at])); exact g2
    · rw [e3]; exact g3
    · rw [sumN_congr (g := fun t => y (52 + t)) (fun u hu => by (repeat (first | rw [u1_ne (by omega)] | rw [u1_at])))]; exact g4
    · rw [sumN_congr (g := fun t => y (76 + t)) (fun u hu => by (repeat (first | rw [u1_ne (by omega)] | rw [u1_at])))]; exact g5
    · (repeat (first | rw [u1_ne (by omega)] | rw [u1_at])); exact g6 t ht
    · rw [e3] at hc
      (repeat (first | rw [u1_ne (by omega)] | rw [u1_at])); exact g7 c hc
theorem cr_0 {P : PD} {E : Nat → Nat} {R : Int32} (hn : pn P = 0) (h : CrS P E R) : R = 0 := b_ext fun i hi => by
  rw [b_0]
  cases hb : bt R i with
  | false => rfl
  | true => exact absurd ((h i hi).mp hb).1 (by omega)
theorem law_ok (X : Scr) (hX : X.1 ≤ 260) : ∃ M' : Mem, FL_law mM0 X = some (1, M') := by
  obtain ⟨v1, c1'⟩ := l_cell hX (k := 0) (by decide)
  obtain ⟨v2, c2'⟩ := l_cell hX (k := 1) (by decide)
  obtain ⟨v3, c3'⟩ := l_cell hX (k := 2) (by decide)
  obtain ⟨a, a1, a2⟩ := l_low v1 (n := 9) (by decide) (by decide)
  obtain ⟨re, b1, b2⟩ := l_low v2 (n := 4) (by decide) (by decide)
  obtain ⟨rf, d1, d2⟩ := l_low (v2 >>> ((3 : Int32) &&& 31)) (n := 101) (by decide) (by decide)
  obtain ⟨n, hn⟩ : ∃ n, 1 + a = n := ⟨_, rfl⟩
  have hS0 : HS mM0 := ⟨0, 0, by decide, by decide, rfl, rfl⟩
  have h0 : StB (mM0 0) P0 (fun _ => 0) (fun _ => 0) y0 := st_0
  obtain ⟨B1, e1, e2⟩ := (b_set h0).1 (1 + re) (by omega) (by omega)
  obtain ⟨M1, m1, m2, -, m3, -⟩ := ch_step hS0 (fc := fun B => FX2_changeSetting B 1 (nI (1 + re))) e1
  have m1' : FX5_set mM0 (1 : Int32) (nI (1 + re)) = some (2, M1) := m1
  have h1 : StB (M1 0) P0 (fun _ => 0) (fun _ => 0) (u1 y0 2 (1 + re)) := by rw [m2]; exact e2
  obtain ⟨B2, f1, f2⟩ := (b_set h1).2 rf (by omega)
  obtain ⟨M2, p1, p2, -, p3, -⟩ := ch_step m3 (fc := fun B => FX2_changeSetting B 0 (nI rf)) f1
  have p1' : FX5_set M1 (0 : Int32) (nI rf) = some (50, M2) := p1
  have h2 : StB (M2 0) P0 (fun _ => 0) (fun _ => 0) (u1 (u1 y0 2 (1 + re)) 1 rf) := by rw [p2]; exact f2
  obtain ⟨R, r1, r2⟩ := r_crit h2
  have hR0 : R = 0 := cr_0 rfl r2
  subst hR0
  have hBI : BI M2 0 := ⟨P0, _, _, _, h2, rfl, by (repeat (first | rw [u1_ne (by omega)] | rw [u1_at])); rfl, Nat.le_refl _⟩
  obtain ⟨M3, q1, ⟨P, E, o, y, h3, e3, y3, ymo⟩, q3⟩ := l_build hX (n := n) (by omega) hBI p3
  subst e3
  have hn24 := h3.n
  obtain ⟨M4, s1, s2, s3⟩ := l_slacks h3
  have hS4 : HS M4 := hs_cg q3 (s3 11 (by decide) (by decide))
  obtain ⟨t, t1, t2⟩ := l_low (v2 >>> ((11 : Int32) &&& 31)) (n := pn P) (by omega) (by omega)
  obtain ⟨M5, w1, ⟨E5, o5', w2⟩, w3⟩ := l_places s2 hS4 t1
  obtain ⟨t', t1', t2'⟩ := l_low (v2 >>> ((15 : Int32) &&& 31)) (n := pn P) (by omega) (by omega)
  obtain ⟨c, x1, x2⟩ := l_low (v2 >>> ((19 : Int32) &&& 31)) (n := pn P) (by omega) (by omega)
  obtain ⟨d, z1, z2⟩ := l_low (v2 >>> ((23 : Int32) &&& 31)) (n := 40) (by decide) (by decide)
  obtain ⟨M6, E6, o6', i1, i2, i3, i4⟩ := l_endIf w2 t1' x1 (d := 1 + d) (by omega) (by omega)
  have h6 : StB (M6 0) P E5 o5' y := by rw [i2 0 (by decide)]; exact w2
  have hS6 : HS M6 := hs_cg w3 (i2 11 (by decide))
  obtain ⟨M7, E7, o7', j1, j2, j3, j4⟩ := l_dur h6 hS6 x1 (d := 1 + d) (by omega) (by omega)
  have e67 : E7 t' = E6 t' := ends_uniq (P := duP P c (1 + d)) j2.tp j2.en i3 t' t1'
  have g5 : FX5_ofTask M7 (nI t') (5 : Int32) = some (nI (E6 t'), M7) := by
    have := o5 j2 (t := t') t1'
    rw [e67] at this
    exact this
  have gt : FL_times M7 (nI (pn P)) = some (1, M7) := l_times (P := duP P c (1 + d)) j2
  obtain ⟨M8, k8, u1', u2, u3, u4, -⟩ := l_undo j4
  have h8 : StB (M8 0) P E5 o5' y := h6.eqb u3
  obtain ⟨M9, l1, l2, l3⟩ := l_trades h8 u4 (by omega) y3 (by omega)
  obtain ⟨M10, n1', n2, n3'⟩ := l_slacks l2
  have hS10 : HS M10 := hs_cg l3 (n3' 11 (by decide) (by decide))
  have hCC : CC (tradeL P E5 (pn P) 0 y) := fun i hi => by
    have := (trade_ti hn24 (E := E5) h8.2 (fun c hc => by omega)).2.1 i hi
    exact ⟨this.1, this.2.1⟩
  obtain ⟨M11, f1', ⟨y11, f2'⟩, f3'⟩ := l_refunds n2 hCC hS10 v3
  obtain ⟨M12, g1'⟩ := l_trades2 f2' f3'
  refine ⟨M12, ?_⟩
  unfold FL_law
  rw [k0, c1', c1_eq, show (9 : Int32) = nI 9 from rfl, a2, c1_eq, lt1_eq, show (1 : Int32) + nI a = nI (1 + a) from nI_add 1 a, hn, show FL_cell X (1 : Int32) = some v2 from c2', c1_eq, k4, b2, c1_eq, lt1_eq, show (1 : Int32) + nI re = nI (1 + re) from nI_add 1 re, show (101 : Int32) = nI 101 from rfl, d2, c1_eq, m1', c2_eq, if_pos rfl, ← k0, p1', c2_eq, if_pos rfl, r1, c1_eq, if_pos rfl, q1, c2_eq, if_neg (show ¬ (1 : Int32) = 0 by decide), l_times h3, c2_eq, if_neg (show ¬ (1 : Int32) = 0 by decide), s1, c2_eq, if_neg (show ¬ (1 : Int32) = 0 by decide), l_chain s2, c2_eq, if_neg (show ¬ (1 : Int32) = 0 by decide), t2, c1_eq, w1, c2_eq, if_neg (show ¬ (1 : Int32) = 0 by decide), t2', c1_eq, x2, c1_eq, show (40 : Int32) = nI 40 from rfl, z2, c1_eq, lt1_eq, show (1 : Int32) + nI d = nI (1 + d) from nI_add 1 d, o1 w2 x1, c2_eq, i1, c2_eq, o1 h6 x1, c2_eq, if_pos rfl, j1, c2_eq, if_pos rfl, g5, c2_eq, if_pos rfl, gt, c2_eq, if_neg (show ¬ (1 : Int32) = 0 by decide), u2, c2_eq, if_pos (nI_pos' (by omega)), l1, c2_eq, if_neg (show ¬ (1 : Int32) = 0 by decide), n1', c2_eq, if_neg (show ¬ (1 : Int32) = 0 by decide), show FL_cell X (2 : Int32) = some v3 from c3', c1_eq, f1', c2_eq, if_neg (show ¬ (1 : Int32) = 0 by decide), g1', c2_eq, if_neg (show ¬ (1 : Int32) = 0 by decide)]
