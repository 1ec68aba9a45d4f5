/-! the model's reader: pairs, tasks, orders -/
theorem n1_num {T : TX} {s : St} (h : (tNum T s).1 = 1) : s.1 = 1 ∧ (tNum T s).2.2.1 = s.2.2.1 + 1 ∨ s.1 ≠ 0 ∧ s.1 ≠ 1 := by
  unfold tNum at h ⊢
  by_cases c1 : s.1 = 0
  · rw [if_pos c1] at h; omega
  · rw [if_neg c1] at h ⊢
    by_cases c2 : isDg T s.2.1
    · rw [if_pos c2]
      by_cases c3 : s.1 = 1
      · exact Or.inl ⟨c3, rfl⟩
      · exact Or.inr ⟨c1, c3⟩
    · rw [if_neg c2] at h
      exact absurd h (show ¬ (0 : Nat) = 1 by omega)
theorem n1_mach {T : TX} {s : St} (h : (tMach T s).1 = 1) (hs : s.1 = 1) : (tMach T s).2.2.1 = s.2.2.1 + 1 := by
  unfold tMach at h ⊢
  rw [if_neg (by omega)] at h ⊢
  by_cases c2 : 48 ≤ ch T s.2.1 ∧ ch T s.2.1 ≤ 51
  · rw [if_pos c2]
  · rw [if_neg c2] at h
    exact absurd h (show ¬ (0 : Nat) = 1 by omega)
theorem s1_sign {T : TX} {c : Nat} {s : St} (h : (tSign T c s).1 = 1) : s.1 ≠ 0 := by
  intro e
  rw [tSign_0 e] at h
  omega
theorem w6 {T : TX} {Z0 Z : Blk} {k b : Nat} {kd : Int32} {s : St} (hT : TOK T) (h : ZS T Z0 k kd Z s b) : (s.1 = 1 → Z 0 18 = -6) ∧ (s.1 = 0 → ¬ Z 0 18 = -6) := by
  have hT1 := hT.1
  have hp := h.2.2.2.2.2.2.1
  rcases h.2.2.2.2.2.1 with ⟨e, e2⟩ | ⟨e, e2⟩
  · exact ⟨fun _ => e2, fun q => by omega⟩
  · exact ⟨fun q => by omega, fun _ => by rw [e2]; exact m6_ne (by omega)⟩
theorem m_sn {T : TX} {Z0 Z : Blk} {k b c : Nat} {kd : Int32} {s : St} (hT : TOK T) (h0 : ZT T Z0) (h : ZS T Z0 k kd Z s b) (hb : b ≤ 900) (hc : c ≠ 0 ∧ c ≤ 126) : ∃ (v : Int32) (Z2 : Blk), (∀ K : Int32 → Blk → Option Blk, (c1 (FX6_takes Z (nI c)) fun B9 => if ((B9 0) 18) = -6 then c2 (FX6_takesNumber B9) fun r B16 => K r B16 else K 0 B9) = K v Z2) ∧ ∀ x, 6 * k + 1 ≤ x → (s.1 = 1 → x = 6 * k + 1 + s.2.2.1) → ZS T Z0 k kd (bs Z2 11 x v) (tNum T (tSign T c s)) (b + 7) := by
  obtain ⟨Z1, a1, a2⟩ := m_takes hT h0 h (by omega) hc
  obtain ⟨w1, w2⟩ := w6 hT a2
  have f := h.f01
  rcases f01_sign (T := T) (c := c) f with e | e
  · refine ⟨0, Z1, fun K => by rw [a1, c1_eq, if_neg (w2 e)], fun x hx _ => ?_⟩
    rw [tNum_0 e]
    exact (a2.st0 e hx).mono (by omega)
  · obtain ⟨v, Z', x1, x2⟩ := m_num hT h0 a2 (by omega)
    refine ⟨v, Z', fun K => by rw [a1, c1_eq, if_pos (w1 e), x1, c2_eq], fun x hx hx2 => ?_⟩
    refine x2 x hx (fun _ => ?_)
    rw [r_sign]
    have := s1_sign e
    exact hx2 (by omega)
theorem m_two {T : TX} {Z0 Z : Blk} {k b c : Nat} {kd : Int32} {s : St} (hT : TOK T) (h0 : ZT T Z0) (h : ZS T Z0 k kd Z s b) (hb : b ≤ 800) (hc : c ≠ 0 ∧ c ≤ 126) (hk : k ≤ 41) (hs : s.2.2.1 = 0) : ∃ Z' : Blk, FX6_readTwo Z (nI (6 * k)) (nI c) = some Z' ∧ ZS T Z0 k kd Z' (tPair T c s) (b + 13) := by
  obtain ⟨v1, Z1, a1, a2⟩ := m_num hT h0 h (by omega)
  have a3 := a2 (6 * k + 1) (by omega) (fun _ => by rw [hs])
  obtain ⟨v2, Z2, b1, b2⟩ := m_sn (c := c) hT h0 a3 (by omega) hc
  unfold FX6_readTwo
  rw [a1, c2_eq, nI_1, stb_nI (by omega) (by decide), show (2 : Int32) = nI 2 from rfl, nI_add, b1 (fun r B => FX6_readTwo_41 r (nI (6 * k + 2)) B)]
  unfold FX6_readTwo_41
  rw [stb_nI (by omega) (by decide)]
  refine ⟨_, rfl, b2 (6 * k + 2) (by omega) (fun q => ?_)⟩
  have f := h.f01
  rcases n1_num q with ⟨q1, q2⟩ | q1
  · rw [q2, hs]
  · omega
theorem m_taskR {T : TX} {Z0 Z : Blk} {k b : Nat} {kd : Int32} {s : St} (hT : TOK T) (h0 : ZT T Z0) (h : ZS T Z0 k kd Z s b) (hb : b ≤ 800) (hk : k ≤ 41) (hf : s.1 = 1) (hs : s.2.2.1 = 0) : ∃ Z' : Blk, FX6_readTask Z (nI (6 * k)) = some Z' ∧ ZS T Z0 k kd Z' (tTask T s) (b + 60) := by
  obtain ⟨v1, Z1, a1, a2⟩ := m_mach hT h0 h (by omega) hf
  have a3 := a2 (6 * k + 1) (by omega) (fun _ => by rw [hs])
  have f1 := f01_mach (T := T) (s := s) (Or.inr hf)
  have r1 : (tMach T s).1 = 1 → (tMach T s).2.2.1 = 1 := fun q => by rw [n1_mach q hf, hs]
  obtain ⟨v2, Z2, b1, b2⟩ := m_sn (c := 47) hT h0 a3 (by omega) (by omega)
  have b3 := b2 (6 * k + 2) (by omega) (fun q => by rw [r1 q])
  have f2 := f01_num (T := T) (f01_sign (T := T) (c := 47) f1)
  have r2 : (tNum T (tSign T 47 (tMach T s))).1 = 1 → (tNum T (tSign T 47 (tMach T s))).2.2.1 = 2 := fun q => by
    have fs := f01_sign (T := T) (c := 47) f1
    rcases n1_num q with ⟨q1, q2⟩ | q1
    · have := s1_sign q1
      rw [q2, r_sign, r1 (by omega)]
    · omega
  obtain ⟨v3, Z3, d1, d2⟩ := m_sn (c := 60) hT h0 b3 (by omega) (by omega)
  have d3 := d2 (6 * k + 3) (by omega) (fun q => by rw [r2 q])
  have f3 := f01_num (T := T) (f01_sign (T := T) (c := 60) f2)
  have r3 : (tNum T (tSign T 60 (tNum T (tSign T 47 (tMach T s))))).1 = 1 → (tNum T (tSign T 60 (tNum T (tSign T 47 (tMach T s))))).2.2.1 = 3 := fun q => by
    have fs := f01_sign (T := T) (c := 60) f2
    rcases n1_num q with ⟨q1, q2⟩ | q1
    · have := s1_sign q1
      rw [q2, r_sign, r2 (by omega)]
    · omega
  obtain ⟨v4, Z4, g1, g2⟩ := m_sn (c := 36) hT h0 d3 (by omega) (by omega)
  have g3 := g2 (6 * k + 4) (by omega) (fun q => by rw [r3 q])
  have f4 := f01_num (T := T) (f01_sign (T := T) (c := 36) f3)
  have r4 : (tNum T (tSign T 36 (tNum T (tSign T 60 (tNum T (tSign T 47 (tMach T s))))))).1 = 1 → (tNum T (tSign T 36 (tNum T (tSign T 60 (tNum T (tSign T 47 (tMach T s))))))).2.2.1 = 4 := fun q => by
    have fs := f01_sign (T := T) (c := 36) f3
    rcases n1_num q with ⟨q1, q2⟩ | q1
    · have := s1_sign q1
      rw [q2, r_sign, r3 (by omega)]
    · omega
  unfold FX6_readTask tTask
  obtain ⟨s4, hs4⟩ : ∃ s4, tNum T (tSign T 36 (tNum T (tSign T 60 (tNum T (tSign T 47 (tMach T s)))))) = s4 := ⟨_, rfl⟩
  rw [hs4] at g3 f4 r4 ⊢
  rw [a1, c2_eq, nI_1, stb_nI (by omega) (by decide), show (2 : Int32) = nI 2 from rfl, nI_add, show (47 : Int32) = nI 47 from rfl, b1 (fun r B => FX6_readTask_42 (nI (6 * k)) r (nI (6 * k + 2)) B)]
  unfold FX6_readTask_42
  rw [stb_nI (by omega) (by decide), show (3 : Int32) = nI 3 from rfl, nI_add, show (60 : Int32) = nI 60 from rfl, d1 (fun r B => FX6_readTask_73 (nI (6 * k)) r (nI (6 * k + 3)) B)]
  unfold FX6_readTask_73
  rw [stb_nI (by omega) (by decide), show (4 : Int32) = nI 4 from rfl, nI_add, show (36 : Int32) = nI 36 from rfl, g1 (fun r B => FX6_readTask_104 (nI (6 * k)) r (nI (6 * k + 4)) B)]
  unfold FX6_readTask_104
  rw [stb_nI (by omega) (by decide), k5, nI_add, stb_nI (by omega) (by decide)]
  obtain ⟨Z5, hZ5⟩ : ∃ Z5, bs Z4 11 (6 * k + 4) v4 = Z5 := ⟨_, rfl⟩
  rw [hZ5] at g3 ⊢
  rcases f4 with e | e
  · have g4 := g3.st0 (x := 6 * k + 5) (v := -6) e (by omega)
    rw [if_neg ((w6 hT g4).2 e), tOpt_0 e]
    exact ⟨_, rfl, g4.mono (by omega)⟩
  · obtain ⟨f, i, r, a⟩ := s4
    have hf : f = 1 := e
    subst hf
    have er : r = 4 := r4 rfl
    subst er
    have g4 := g3.stv (v := -6)
    rw [show 6 * k + 1 + 4 = 6 * k + 5 by omega] at g4
    obtain ⟨m, m1, m2, m3⟩ := g4.2.2.2.2.1
    have em : m = i := m3 rfl
    subst em
    have hin : m ≤ T.1 := g4.2.2.2.2.2.2.1
    have hT1 := hT.1
    have e7 : bs Z5 11 (6 * k + 5) (-6) 0 17 = nI m := m2
    rw [if_pos ((w6 hT g4).1 rfl), e7, m_letter hT (g4.zt h0) (by omega), c1_eq]
    unfold tOpt
    rw [if_neg (show ¬ (1 : Nat) = 0 by omega)]
    have q94 : lt T m = 94 ↔ ch T m = 94 := lt_eq hT (c := 94) (by omega)
    by_cases c : ch T m = 94
    · rw [if_pos (q94.mpr c), if_pos (show ch T (1, m, 4, a).2.1 = 94 from c), lt1_eq, nI_1]
      have hin2 := ch_in (T := T) (i := m) (by omega)
      -- the store of -6 is written over
      have g5 : ZS T Z0 k kd (bs (bs Z5 11 (6 * k + 5) (-6)) 0 17 (nI (m + 1))) (1, m + 1, 4, a) (b + 1 + 7 + 7 + 7 + 1) := by
        have g6 := g4.go (m := m + 1) (i := m + 1) (by omega) (fun _ => ⟨rfl, hin2⟩)
        obtain ⟨p1, p2, p3, p4, p5, p6, p7, p8⟩ := g6
        refine ⟨p1, p2, p3, p4, p5, p6, p7, fun _ j hj => ?_⟩
        have hj' : j < 4 := hj
        have := p8 rfl j (show j < 5 by omega)
        rw [this]
        show upd a 4 (-6) j = a j
        rw [upd_ne (by omega)]
      obtain ⟨v5, Z6, x1, x2⟩ := m_num hT h0 g5 (by omega)
      rw [x1, c2_eq, stb_nI (by omega) (by decide)]
      exact ⟨_, rfl, (x2 (6 * k + 5) (by omega) (fun _ => rfl)).mono (by omega)⟩
    · rw [if_neg (fun q => c (q94.mp q)), if_neg (show ¬ ch T (1, m, 4, a).2.1 = 94 from c)]
      exact ⟨_, rfl, g4.mono (by omega)⟩
theorem m_order {T : TX} {Z : Blk} {k i : Nat} (hT : TOK T) (hZ : ZT T Z) (hp : Z 0 17 = nI i) (hi : i ≤ T.1) (hw : Z 0 18 = -6) (hk : k ≤ 41) : ∃ Z' : Blk, FX6_readOrder Z (nI (6 * k)) = some Z' ∧ ZS T Z k (lt T i) Z' (ordr T i) 200 := by
  have hT1 := hT.1
  unfold FX6_readOrder ordr
  rw [hp, m_letter hT hZ (by omega), c1_eq, stb_nI (by omega) (by decide)]
  obtain ⟨B3, hB3⟩ : ∃ B3, bs Z 11 (6 * k) (lt T i) = B3 := ⟨_, rfl⟩
  rw [hB3]
  have hs : ZS T Z k (lt T i) B3 (st0 i) 80 := by
    rw [← hB3]
    exact ⟨fun q q0 q11 => bs_o q11, fun j _ _ => by rw [bs_o (by omega)], fun x hx => bs_kn (by omega), bs_kk, ⟨i, by omega, by rw [bs_o (by omega)]; exact hp, fun _ => rfl⟩, Or.inl ⟨rfl, by rw [bs_o (by omega)]; exact hw⟩, hi, fun _ j hj => absurd hj (Nat.not_lt_zero j)⟩
  have e17 : B3 0 17 = nI i := by rw [← hB3, bs_o (by omega)]; exact hp
  have go : ch T i ≠ 0 → ZS T Z k (lt T i) (bs B3 0 17 (nI (i + 1))) (st0 (i + 1)) 81 := fun h =>
    hs.go (m := i + 1) (i := i + 1) (by omega) (fun _ => ⟨rfl, ch_in h⟩)
  have q : ∀ (c : Nat) (n : Int32), n = nI c → c ≠ 0 → c ≤ 126 → (lt T i = n ↔ ch T i = c) := fun c n hn h1 h2 => by rw [hn]; exact lt_eq hT ⟨h1, h2⟩
  have fin : ∀ (t : St) (b : Nat) (C : Option Blk), b ≤ 200 → (∃ Z' : Blk, C = some Z' ∧ ZS T Z k (lt T i) Z' t b) → ∃ Z' : Blk, (c1 C fun B => some B) = some Z' ∧ ZS T Z k (lt T i) Z' t 200 := by
    intro t b C hb hC
    obtain ⟨Z', x1, x2⟩ := hC
    exact ⟨Z', by rw [x1, c1_eq], x2.mono hb⟩
  rw [e17, nI_1]
  by_cases e1 : ch T i = 100
  · rw [if_pos ((q 100 100 rfl (by omega) (by omega)).mpr e1), if_pos e1, lt1_eq]
    exact fin _ 94 _ (by omega) (m_two (c := 61) hT hZ (go (by omega)) (by omega) (by omega) hk rfl)
  · rw [if_neg (fun x => e1 ((q 100 100 rfl (by omega) (by omega)).mp x)), if_neg e1]
    by_cases e2 : ch T i = 109
    · rw [if_pos ((q 109 109 rfl (by omega) (by omega)).mpr e2), if_pos e2, lt1_eq]
      exact fin _ 94 _ (by omega) (m_two (c := 58) hT hZ (go (by omega)) (by omega) (by omega) hk rfl)
    · rw [if_neg (fun x => e2 ((q 109 109 rfl (by omega) (by omega)).mp x)), if_neg e2]
      by_cases e3 : ch T i = 111
      · rw [if_pos ((q 111 111 rfl (by omega) (by omega)).mpr e3), if_pos e3, lt1_eq]
        obtain ⟨Z1, a1, a2⟩ := m_two (c := 42) hT hZ (go (by omega)) (by omega) (by omega) hk rfl
        rw [show (42 : Int32) = nI 42 from rfl, a1, c1_eq]
        obtain ⟨v2, Z2, b1, b2⟩ := m_sn (c := 64) hT hZ a2 (by omega) (by omega)
        rw [show (3 : Int32) = nI 3 from rfl, nI_add, show (64 : Int32) = nI 64 from rfl, b1 (fun r B => FX6_readOrder_161 r (nI (6 * k + 3)) B)]
        unfold FX6_readOrder_161
        rw [stb_nI (by omega) (by decide)]
        refine ⟨_, rfl, (b2 (6 * k + 3) (by omega) (fun z => ?_)).mono (by omega)⟩
        have f1 := f01_num (T := T) (s := st0 (i + 1)) (Or.inr rfl)
        have f2 := f01_sign (T := T) (c := 42) f1
        have z' : (tNum T (tSign T 42 (tNum T (st0 (i + 1))))).1 = 1 := z
        show 6 * k + 3 = 6 * k + 1 + (tNum T (tSign T 42 (tNum T (st0 (i + 1))))).2.2.1
        rcases n1_num z' with ⟨z1, z2⟩ | z1
        · have z3 := s1_sign z1
          rcases n1_num (T := T) (s := st0 (i + 1)) (by omega) with ⟨z4, z5⟩ | z4
          · rw [z2, r_sign, z5]
            rfl
          · exact absurd rfl z4.2
        · omega
      · rw [if_neg (fun x => e3 ((q 111 111 rfl (by omega) (by omega)).mp x)), if_neg e3]
        by_cases e4 : ch T i = 114
        · rw [if_pos ((q 114 114 rfl (by omega) (by omega)).mpr e4), if_pos e4, lt1_eq]
          exact fin _ 94 _ (by omega) (m_two (c := 42) hT hZ (go (by omega)) (by omega) (by omega) hk rfl)
        · rw [if_neg (fun x => e4 ((q 114 114 rfl (by omega) (by omega)).mp x)), if_neg e4]
          by_cases e5 : ch T i = 116
          · rw [if_pos ((q 116 116 rfl (by omega) (by omega)).mpr e5), if_pos e5, lt1_eq]
            exact fin _ 141 _ (by omega) (m_taskR hT hZ (go (by omega)) (by omega) hk rfl rfl)
          · rw [if_neg (fun x => e5 ((q 116 116 rfl (by omega) (by omega)).mp x)), if_neg e5]
            by_cases e6 : ch T i = 120
            · rw [if_pos ((q 120 120 rfl (by omega) (by omega)).mpr e6), lt1_eq]
              have : tSign T 120 (st0 i) = st0 (i + 1) := (if_neg (show ¬ (1 : Nat) = 0 by omega)).trans (if_pos e6)
              rw [this]
              exact ⟨_, rfl, (go (by omega)).mono (by omega)⟩
            · rw [if_neg (fun x => e6 ((q 120 120 rfl (by omega) (by omega)).mp x))]
              have : tSign T 120 (st0 i) = (0, (st0 i).2) := (if_neg (show ¬ (1 : Nat) = 0 by omega)).trans (if_neg e6)
              rw [this]
              obtain ⟨Z1, a1, a2, -⟩ := m_fail hT hs
              rw [a1, c1_eq]
              exact ⟨_, rfl, a2.mono (by omega)⟩
