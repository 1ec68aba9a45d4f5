/-! the model's reader -/
def lt (T : TX) (m : Nat) : Int32 := if m < T.1 then nI (T.2 m) else -1
def ZS (T : TX) (Z0 : Blk) (k : Nat) (kd : Int32) (Z : Blk) (s : St) (b : Nat) : Prop :=
  (∀ q, q ≠ 0 → q ≠ 11 → Z q = Z0 q) ∧ (∀ j, j ≠ 17 → j ≠ 18 → Z 0 j = Z0 0 j) ∧ (∀ x, x < 6 * k → Z 11 x = Z0 11 x) ∧ Z 11 (6 * k) = kd ∧ (∃ m, m ≤ b ∧ Z 0 17 = nI m ∧ (s.1 = 1 → m = s.2.1)) ∧ ((s.1 = 1 ∧ Z 0 18 = -6) ∨ (s.1 = 0 ∧ Z 0 18 = nI s.2.1)) ∧ s.2.1 ≤ T.1 ∧ (s.1 = 1 → ∀ j, j < s.2.2.1 → Z 11 (6 * k + 1 + j) = s.2.2.2 j)
theorem ZS.zt {T : TX} {Z0 Z : Blk} {k b : Nat} {kd : Int32} {s : St} (h : ZS T Z0 k kd Z s b) (h0 : ZT T Z0) : ZT T Z :=
  ⟨by rw [h.2.1 8 (by omega) (by omega)]; exact h0.1, fun i hi => by rw [h.1 6 (by omega) (by omega)]; exact h0.2 i hi⟩
theorem ZS.mono {T : TX} {Z0 Z : Blk} {k b b' : Nat} {kd : Int32} {s : St} (h : ZS T Z0 k kd Z s b) (hb : b ≤ b') : ZS T Z0 k kd Z s b' := by
  obtain ⟨h1, h2, h3, h4, ⟨m, m1, m2⟩, h5⟩ := h
  exact ⟨h1, h2, h3, h4, ⟨m, by omega, m2⟩, h5⟩
theorem ZS.f01 {T : TX} {Z0 Z : Blk} {k b : Nat} {kd : Int32} {s : St} (h : ZS T Z0 k kd Z s b) : s.1 = 0 ∨ s.1 = 1 := by
  rcases h.2.2.2.2.2.1 with q | q
  · exact Or.inr q.1
  · exact Or.inl q.1
/-- the spot moves -/
theorem ZS.go {T : TX} {Z0 Z : Blk} {k b m : Nat} {kd : Int32} {s : St} (h : ZS T Z0 k kd Z s b) {i : Nat} (hm : m ≤ b + 1) (h1 : s.1 = 1 → m = i ∧ i ≤ T.1) : ZS T Z0 k kd (bs Z 0 17 (nI m)) (s.1, if s.1 = 1 then i else s.2.1, s.2.2) (b + 1) := by
  obtain ⟨g1, g2, g3, g4, -, g6, g7, g8⟩ := h
  refine ⟨fun q q0 q11 => by rw [bs_o q0]; exact g1 q q0 q11, fun j j17 j18 => by rw [bs_kn j17]; exact g2 j j17 j18, fun x hx => by rw [bs_o (by omega)]; exact g3 x hx, by rw [bs_o (by omega)]; exact g4, ⟨m, hm, bs_kk, fun e => ?_⟩, ?_, ?_, fun e j hj => by rw [bs_o (by omega)]; exact g8 e j hj⟩
  · show m = if s.1 = 1 then i else s.2.1
    rw [if_pos (show s.1 = 1 from e)]; exact (h1 e).1
  · rw [bs_kn (by omega)]
    rcases g6 with ⟨e, e2⟩ | ⟨e, e2⟩
    · exact Or.inl ⟨e, e2⟩
    · refine Or.inr ⟨e, ?_⟩
      show Z 0 18 = nI (if s.1 = 1 then i else s.2.1)
      rw [if_neg (by omega)]; exact e2
  · show (if s.1 = 1 then i else s.2.1) ≤ T.1
    by_cases e : s.1 = 1
    · rw [if_pos e]; exact (h1 e).2
    · rw [if_neg e]; exact g7
theorem ZS.noise {T : TX} {Z0 Z : Blk} {k b m : Nat} {kd : Int32} {s : St} (h : ZS T Z0 k kd Z s b) (h0 : s.1 = 0) (hm : m ≤ b + 1) : ZS T Z0 k kd (bs Z 0 17 (nI m)) s (b + 1) := by
  have g := h.go (i := 0) hm (fun e => by omega)
  rw [if_neg (by omega)] at g
  exact g
theorem ZS.st0 {T : TX} {Z0 Z : Blk} {k b x : Nat} {kd v : Int32} {s : St} (h : ZS T Z0 k kd Z s b) (h0 : s.1 = 0) (hx : 6 * k + 1 ≤ x) : ZS T Z0 k kd (bs Z 11 x v) s b := by
  obtain ⟨g1, g2, g3, g4, g5, g6, g7, g8⟩ := h
  exact ⟨fun q q0 q11 => by rw [bs_o q11]; exact g1 q q0 q11, fun j j17 j18 => by rw [bs_o (by omega)]; exact g2 j j17 j18, fun y hy => by rw [bs_kn (by omega)]; exact g3 y hy, by rw [bs_kn (by omega)]; exact g4, by rw [bs_o (by omega)]; exact g5, by rw [bs_o (by omega)]; exact g6, g7, fun e => by omega⟩
theorem ZS.stv {T : TX} {Z0 Z : Blk} {k b f i r : Nat} {kd v : Int32} {a : Nat → Int32} (h : ZS T Z0 k kd Z (f, i, r, a) b) : ZS T Z0 k kd (bs Z 11 (6 * k + 1 + r) v) (f, i, r + 1, upd a r v) b := by
  obtain ⟨g1, g2, g3, g4, g5, g6, g7, g8⟩ := h
  refine ⟨fun q q0 q11 => by rw [bs_o q11]; exact g1 q q0 q11, fun j j17 j18 => by rw [bs_o (by omega)]; exact g2 j j17 j18, fun y hy => by rw [bs_kn (by omega)]; exact g3 y hy, by rw [bs_kn (by omega)]; exact g4, by rw [bs_o (by omega)]; exact g5, by rw [bs_o (by omega)]; exact g6, g7, fun e j hj => ?_⟩
  show bs Z 11 (6 * k + 1 + r) v 11 (6 * k + 1 + j) = upd a r v j
  have hj' : j < r + 1 := hj
  by_cases c : j = r
  · rw [c, bs_kk, upd_at]
  · rw [bs_kn (by omega), upd_ne c]
    exact g8 e j (show j < r by omega)
theorem lt_eq {T : TX} (hT : TOK T) {m c : Nat} (hc : c ≠ 0 ∧ c ≤ 126) : lt T m = nI c ↔ ch T m = c := by
  unfold lt ch
  by_cases e : m < T.1
  · rw [if_pos e, if_pos e]
    exact nI_eq (by have := (hT.2 m e).2; omega) (by omega)
  · rw [if_neg e, if_neg e]
    constructor
    · intro q
      have := congrArg Int32.toInt q
      rw [nI_toInt (by omega), show (-1 : Int32).toInt = -1 from rfl] at this
      omega
    · intro q; omega
theorem m_letter {T : TX} {Z : Blk} {m : Nat} (hT : TOK T) (hZ : ZT T Z) (hm : m < 2 ^ 31) : FX6_letter Z (nI m) = some (lt T m) := by
  have := hT.1
  unfold FX6_letter lt
  rw [hZ.1, le_nI (by omega) hm]
  by_cases c : m < T.1
  · rw [if_neg (by omega), if_pos c, ld_nI (by omega) (by decide), hZ.2 m c]
  · rw [if_pos (by omega), if_neg c]
theorem lt_48 {T : TX} (hT : TOK T) (m : Nat) : (lt T m < 48 ↔ ch T m < 48) ∧ (57 < lt T m ↔ 57 < ch T m) ∧ (lt T m ≤ 51 ↔ ch T m ≤ 51) ∧ (48 ≤ ch T m → lt T m = nI (ch T m)) := by
  unfold lt ch
  by_cases e : m < T.1
  · have := (hT.2 m e).2
    rw [if_pos e, if_pos e]
    exact ⟨nI_ltI (b := 48) (by omega) (by omega), nI_ltI (a := 57) (by omega) (by omega), nI_leI (b := 51) (by omega) (by omega), fun _ => rfl⟩
  · rw [if_neg e, if_neg e]
    exact ⟨⟨fun _ => by omega, fun _ => by decide⟩, ⟨fun q => absurd q (by decide), fun q => by omega⟩, ⟨fun _ => by omega, fun _ => by decide⟩, fun q => by omega⟩
theorem m_digit {T : TX} {Z : Blk} {m : Nat} (hT : TOK T) (hZ : ZT T Z) (hm : m < 2 ^ 31) : (isDg T m → FX6_isDigit Z (nI m) = some 1) ∧ (¬ isDg T m → FX6_isDigit Z (nI m) = some 0) := by
  obtain ⟨l1, l2, -, -⟩ := lt_48 hT m
  unfold FX6_isDigit
  rw [m_letter hT hZ hm, c1_eq, c1_eq]
  constructor
  · intro d
    unfold isDg at d
    rw [if_neg (fun q => by have := l1.mp q; omega), if_neg (fun q => by have := l2.mp q; omega)]
  · intro d
    by_cases c : ch T m < 48
    · rw [if_pos (l1.mpr c)]
    · rw [if_neg (fun q => c (l1.mp q)), if_pos (l2.mpr (by unfold isDg at d; omega))]
theorem m_fail {T : TX} {Z0 Z : Blk} {k b : Nat} {kd : Int32} {s : St} (hT : TOK T) (h : ZS T Z0 k kd Z s b) : ∃ Z' : Blk, FX6_fail Z = some Z' ∧ ZS T Z0 k kd Z' (0, s.2) b ∧ Z' 0 17 = Z 0 17 := by
  obtain ⟨g1, g2, g3, g4, ⟨m, m1, m2, m3⟩, g6, g7, g8⟩ := h
  have key : ∀ v, v = nI s.2.1 → ZS T Z0 k kd (bs Z 0 18 v) (0, s.2) b ∧ bs Z 0 18 v 0 17 = Z 0 17 := fun v hv =>
    ⟨⟨fun q q0 q11 => by rw [bs_o q0]; exact g1 q q0 q11, fun j j17 j18 => by rw [bs_kn j18]; exact g2 j j17 j18, fun y hy => by rw [bs_o (by omega)]; exact g3 y hy, by rw [bs_o (by omega)]; exact g4, ⟨m, m1, by rw [bs_kn (by omega)]; exact m2, fun e => absurd e (show ¬ (0 : Nat) = 1 by omega)⟩, Or.inr ⟨rfl, by rw [bs_kk]; exact hv⟩, g7, fun e => absurd e (show ¬ (0 : Nat) = 1 by omega)⟩, bs_kn (by omega)⟩
  unfold FX6_fail FX6_fail_21
  rcases g6 with ⟨e, e2⟩ | ⟨e, e2⟩
  · rw [if_pos e2, lt1_eq]
    exact ⟨_, rfl, key _ (by rw [m2, m3 e])⟩
  · rw [if_neg (by rw [e2]; exact m6_ne (by have := g7; have := hT.1; omega)), lt1_eq]
    exact ⟨_, rfl, key _ e2⟩
theorem m_takes {T : TX} {Z0 Z : Blk} {k b c : Nat} {kd : Int32} {s : St} (hT : TOK T) (h0 : ZT T Z0) (h : ZS T Z0 k kd Z s b) (hb : b ≤ 1000) (hc : c ≠ 0 ∧ c ≤ 126) : ∃ Z' : Blk, FX6_takes Z (nI c) = some Z' ∧ ZS T Z0 k kd Z' (tSign T c s) (b + 1) := by
  obtain ⟨m, m1, m2, m3⟩ := h.2.2.2.2.1
  unfold FX6_takes FX6_takes_16
  rw [m2, m_letter hT (h.zt h0) (by omega), c1_eq]
  obtain ⟨Z1, a1, a2, a3⟩ := m_fail hT h
  rw [m2] at a3
  rw [a1, c1_eq, lt1_eq, lt1_eq, a3, nI_1]
  rcases h.f01 with e | e
  · rw [tSign_0 e]
    by_cases d : lt T m = nI c
    · rw [if_pos d]
      exact ⟨_, rfl, h.noise e (by omega)⟩
    · rw [if_neg d]
      have : (0, s.2) = s := by rw [← e]
      rw [this] at a2
      exact ⟨_, rfl, a2.noise e (by omega)⟩
  · have em := m3 e
    unfold tSign
    rw [if_neg (show ¬ s.1 = 0 by omega)]
    by_cases d : ch T m = c
    · have hin := ch_in (T := T) (i := m) (by omega)
      rw [if_pos ((lt_eq hT hc).mpr d), ← em, if_pos d]
      have g := h.go (m := m + 1) (i := m + 1) (by omega) (fun _ => ⟨rfl, hin⟩)
      rw [if_pos e, e] at g
      exact ⟨_, rfl, g⟩
    · rw [if_neg (fun q => d ((lt_eq hT hc).mp q)), ← em, if_neg d]
      exact ⟨_, rfl, a2.noise rfl (by omega)⟩
/-- digits, behind a fault: any numbers -/
theorem m_noise {T : TX} {Z0 : Blk} {k : Nat} {kd : Int32} {s : St} (hT : TOK T) (h0 : ZT T Z0) (hs : s.1 = 0) : ∀ (d fuel b : Nat) (v : Int32) (Z : Blk), d ≤ 5 → d < fuel → b + d ≤ 2000 → ZS T Z0 k kd Z s b → ∃ (v' : Int32) (Z' : Blk), FX6_takesNumber_39 fuel v (nI (5 - d)) Z = some (v', Z') ∧ ZS T Z0 k kd Z' s (b + d) := by
  intro d
  induction d with
  | zero =>
    intro fuel b v Z hd hf hb h
    obtain ⟨k, rfl⟩ : ∃ k, fuel = k + 1 := ⟨fuel - 1, by omega⟩
    refine ⟨v, Z, ?_, h⟩
    show FX6_takesNumber_39s _ _ _ _ = _
    unfold FX6_takesNumber_39s
    rw [if_pos (show (5 : Int32) ≤ nI (5 - 0) by decide)]
  | succ d ih =>
    intro fuel b v Z hd hf hb h
    obtain ⟨k', rfl⟩ : ∃ k', fuel = k' + 1 := ⟨fuel - 1, by omega⟩
    obtain ⟨m, m1, m2, -⟩ := h.2.2.2.2.1
    show ∃ (v' : Int32) (Z' : Blk), FX6_takesNumber_39s _ _ _ _ = some (v', Z') ∧ _
    unfold FX6_takesNumber_39s
    rw [k5, le_nI (by omega) (by omega), if_neg (by omega)]
    by_cases c1 : v ≤ 0
    · rw [if_pos c1]
      exact ⟨_, _, rfl, h.mono (by omega)⟩
    · rw [if_neg c1, m2]
      have hd := m_digit hT (h.zt h0) (m := m) (by omega)
      by_cases c2 : isDg T m
      · rw [hd.1 c2, c1_eq, if_neg (show ¬ (1 : Int32) = 0 by decide), m_letter hT (h.zt h0) (by omega), c1_eq, lt1_eq, lt1_eq, lt1_eq, nI_1, nI_1, show 5 - (d + 1) + 1 = 5 - d by omega]
        obtain ⟨v', Z', x1, x2⟩ := ih k' (b + 1) (10 * v + lt T m - 48) (bs Z 0 17 (nI (m + 1))) (by omega) (by omega) (by omega) (h.noise hs (by omega))
        exact ⟨v', Z', x1, x2.mono (by omega)⟩
      · rw [hd.2 c2, c1_eq, if_pos rfl]
        exact ⟨_, _, rfl, h.mono (by omega)⟩
theorem m_numL {T : TX} {Z0 : Blk} {k : Nat} {kd : Int32} {r : Nat} {a : Nat → Int32} (hT : TOK T) (h0 : ZT T Z0) : ∀ (d v i fuel b : Nat) (Z : Blk), d ≤ 4 → (v + 1) * 10 ^ d ≤ 100000 → d < fuel → b + d ≤ 2000 → ZS T Z0 k kd Z (1, i, r, a) b → ∃ Z' : Blk, FX6_takesNumber_39 fuel (nI v) (nI (5 - d)) Z = some (nI (nmL T d v i).1, Z') ∧ ZS T Z0 k kd Z' (1, (nmL T d v i).2, r, a) (b + d) := by
  intro d
  induction d with
  | zero =>
    intro v i fuel b Z hd hv hf hb h
    obtain ⟨k', rfl⟩ : ∃ k', fuel = k' + 1 := ⟨fuel - 1, by omega⟩
    refine ⟨Z, ?_, h⟩
    show FX6_takesNumber_39s _ _ _ _ = _
    unfold FX6_takesNumber_39s
    rw [if_pos (show (5 : Int32) ≤ nI (5 - 0) by decide)]
    rfl
  | succ d ih =>
    intro v i fuel b Z hd hv hf hb h
    obtain ⟨k', rfl⟩ : ∃ k', fuel = k' + 1 := ⟨fuel - 1, by omega⟩
    have hvb : v < 100000 := by
      have := Nat.le_mul_of_pos_right (v + 1) (show 0 < 10 ^ (d + 1) from Nat.pow_pos (by omega))
      omega
    have hi : i ≤ T.1 := h.2.2.2.2.2.2.1
    have hT1 := hT.1
    obtain ⟨m, m1, m2, m3⟩ := h.2.2.2.2.1
    have em : m = i := m3 rfl
    subst em
    have hd := m_digit hT (h.zt h0) (m := m) (by omega)
    have hl := ch_le hT m
    have hq := (lt_48 hT m).2.2.2
    show ∃ Z' : Blk, FX6_takesNumber_39s _ _ _ _ = some (nI (if 0 < v ∧ isDg T m then nmL T d (10 * v + ch T m - 48) (m + 1) else (v, m)).1, Z') ∧ ZS T Z0 k kd Z' (1, (if 0 < v ∧ isDg T m then nmL T d (10 * v + ch T m - 48) (m + 1) else (v, m)).2, r, a) (b + (d + 1))
    unfold FX6_takesNumber_39s
    rw [k5, le_nI (by omega) (by omega), if_neg (by omega), k0, le_nI (by omega) (by omega)]
    by_cases c2 : v ≤ 0
    · rw [if_pos c2, if_neg (fun q => by omega)]
      exact ⟨Z, rfl, h.mono (by omega)⟩
    · rw [if_neg c2, m2]
      by_cases c1 : isDg T m
      · have hin := isDg_in c1
        have c1' := c1
        unfold isDg at c1'
        rw [hd.1 c1, c1_eq, if_neg (show ¬ (1 : Int32) = nI 0 by decide), if_pos ⟨by omega, c1⟩, m_letter hT (h.zt h0) (by omega), c1_eq, lt1_eq, lt1_eq, lt1_eq, hq c1'.1, nI_1, nI_1, show (10 : Int32) = nI 10 from rfl, pk_mul, nI_add, show (48 : Int32) = nI 48 from rfl, nI_sub (by omega), show 5 - (d + 1) + 1 = 5 - d by omega]
        have hg := h.go (m := m + 1) (i := m + 1) (by omega) (fun _ => ⟨rfl, hin⟩)
        obtain ⟨Z', x1, x2⟩ := ih (10 * v + ch T m - 48) (m + 1) k' (b + 1) (bs Z 0 17 (nI (m + 1))) (by omega) (by
          rw [Nat.pow_succ] at hv
          have : (10 * v + ch T m - 48 + 1) * 10 ^ d ≤ ((v + 1) * 10) * 10 ^ d := Nat.mul_le_mul_right _ (by omega)
          rw [Nat.mul_assoc] at this
          rw [Nat.mul_comm (10 ^ d) 10] at hv
          omega) (by omega) (by omega) hg
        exact ⟨Z', x1, x2.mono (by omega)⟩
      · rw [hd.2 c1, c1_eq, if_pos (show (0 : Int32) = nI 0 from rfl), if_neg (fun q => c1 q.2)]
        exact ⟨Z, rfl, h.mono (by omega)⟩
theorem m_num {T : TX} {Z0 Z : Blk} {k b : Nat} {kd : Int32} {s : St} (hT : TOK T) (h0 : ZT T Z0) (h : ZS T Z0 k kd Z s b) (hb : b ≤ 1000) : ∃ (v : Int32) (Z' : Blk), FX6_takesNumber Z = some (v, Z') ∧ ∀ x, 6 * k + 1 ≤ x → (s.1 = 1 → x = 6 * k + 1 + s.2.2.1) → ZS T Z0 k kd (bs Z' 11 x v) (tNum T s) (b + 6) := by
  obtain ⟨m, m1, m2, m3⟩ := h.2.2.2.2.1
  have hd := m_digit hT (h.zt h0) (m := m) (by omega)
  -- what stands behind a fault
  have bad : ∀ (Z1 : Blk) (s1 : St), s1.1 = 0 → ZS T Z0 k kd Z1 s1 b → Z1 0 17 = nI m → ∃ (v : Int32) (Z' : Blk), FX6_takesNumber_15 Z1 = some (v, Z') ∧ ∀ x, 6 * k + 1 ≤ x → ZS T Z0 k kd (bs Z' 11 x v) s1 (b + 6) := by
    intro Z1 s1 e1 g1 g2
    unfold FX6_takesNumber_15
    rw [g2, m_letter hT (g1.zt h0) (by omega), c1_eq, lt1_eq, lt1_eq, nI_1]
    obtain ⟨v', Z', x1, x2⟩ := m_noise hT h0 e1 4 fu (b + 1) (lt T m - 48) (bs Z1 0 17 (nI (m + 1))) (by omega) (fu_gt (by omega)) (by omega) (g1.noise e1 (by omega))
    exact ⟨v', Z', x1, fun x hx => (x2.st0 e1 hx).mono (by omega)⟩
  unfold FX6_takesNumber
  rw [m2]
  obtain ⟨Z1, a1, a2, a3⟩ := m_fail hT h
  rw [m2] at a3
  rcases h.f01 with e | e
  · rw [tNum_0 e]
    by_cases c : isDg T m
    · rw [hd.1 c, c1_eq, if_neg (show ¬ (1 : Int32) = 0 by decide)]
      obtain ⟨v, Z', x1, x2⟩ := bad Z s e h m2
      exact ⟨v, Z', x1, fun x hx _ => x2 x hx⟩
    · have : (0, s.2) = s := by rw [← e]
      rw [this] at a2
      rw [hd.2 c, c1_eq, if_pos rfl, a1, c1_eq]
      obtain ⟨v, Z', x1, x2⟩ := bad Z1 s e a2 a3
      exact ⟨v, Z', x1, fun x hx _ => x2 x hx⟩
  · obtain ⟨f, i, r, a⟩ := s
    have hf : f = 1 := e
    subst hf
    have em : m = i := m3 rfl
    subst em
    unfold tNum
    rw [if_neg (show ¬ (1 : Nat) = 0 by omega)]
    by_cases c : isDg T m
    · have hin := isDg_in c
      have c' := c
      unfold isDg at c'
      have hq := (lt_48 hT m).2.2.2 c'.1
      rw [hd.1 c, c1_eq, if_neg (show ¬ (1 : Int32) = 0 by decide), if_pos c]
      unfold FX6_takesNumber_15
      rw [m2, m_letter hT (h.zt h0) (by omega), c1_eq, lt1_eq, lt1_eq, nI_1, hq, show (48 : Int32) = nI 48 from rfl, nI_sub (by omega)]
      have hg := h.go (m := m + 1) (i := m + 1) (by omega) (fun _ => ⟨rfl, hin⟩)
      obtain ⟨Z', x1, x2⟩ := m_numL hT h0 4 (ch T m - 48) (m + 1) fu (b + 1) (bs Z 0 17 (nI (m + 1))) (by omega) (by omega) (fu_gt (by omega)) (by omega) hg
      refine ⟨_, Z', x1, fun x hx hx2 => ?_⟩
      rw [hx2 rfl]
      exact x2.stv.mono (by omega)
    · rw [hd.2 c, c1_eq, if_pos rfl, a1, c1_eq, if_neg c]
      obtain ⟨v, Z', x1, x2⟩ := bad Z1 (0, m, r, a) rfl a2 a3
      exact ⟨v, Z', x1, fun x hx _ => x2 x hx⟩
theorem m_mach {T : TX} {Z0 Z : Blk} {k b : Nat} {kd : Int32} {s : St} (hT : TOK T) (h0 : ZT T Z0) (h : ZS T Z0 k kd Z s b) (hb : b ≤ 1000) (hs : s.1 = 1) : ∃ (v : Int32) (Z' : Blk), FX6_takesMachine Z = some (v, Z') ∧ ∀ x, 6 * k + 1 ≤ x → (s.1 = 1 → x = 6 * k + 1 + s.2.2.1) → ZS T Z0 k kd (bs Z' 11 x v) (tMach T s) (b + 1) := by
  obtain ⟨m, m1, m2, m3⟩ := h.2.2.2.2.1
  obtain ⟨f, i, r, a⟩ := s
  have hf : f = 1 := hs
  subst hf
  have em : m = i := m3 rfl
  subst em
  obtain ⟨Z1, a1, a2, a3⟩ := m_fail hT h
  rw [m2] at a3
  obtain ⟨q1, q2, q3, q4⟩ := lt_48 hT m
  have e30 : ∀ (Z1 : Blk), ZT T Z1 → Z1 0 17 = nI m → FX6_takesMachine_30 Z1 = some (lt T m - 48, bs Z1 0 17 (nI (m + 1))) := by
    intro Z1 z1 z2
    have z3 : ZT T (bs Z1 0 17 (nI (m + 1))) := ⟨by rw [bs_kn (by omega)]; exact z1.1, fun j hj => by rw [bs_o (by omega)]; exact z1.2 j hj⟩
    unfold FX6_takesMachine_30
    rw [lt1_eq, z2, nI_1, bs_kk, nI_sub1 (by omega), show m + 1 - 1 = m by omega, m_letter hT z3 (by omega), c1_eq]
  have bad : FX6_takesMachine_26 Z = some (lt T m - 48, bs Z1 0 17 (nI (m + 1))) := by
    unfold FX6_takesMachine_26
    rw [a1, c1_eq, e30 Z1 (a2.zt h0) a3]
  unfold FX6_takesMachine tMach
  rw [m2, m_letter hT (h.zt h0) (by omega), c1_eq, c1_eq, bad, e30 Z (h.zt h0) m2, if_neg (show ¬ (1 : Nat) = 0 by omega)]
  have hb2 : ∀ x, 6 * k + 1 ≤ x → ZS T Z0 k kd (bs (bs Z1 0 17 (nI (m + 1))) 11 x (lt T m - 48)) (0, m, r, a) (b + 1) := fun x hx => (a2.noise rfl (by omega)).st0 rfl hx
  by_cases c1 : ch T m < 48
  · rw [if_pos (q1.mpr c1), if_neg (show ¬ (48 ≤ ch T m ∧ ch T m ≤ 51) by omega)]
    exact ⟨_, _, rfl, fun x hx _ => hb2 x hx⟩
  · rw [if_neg (fun q => c1 (q1.mp q))]
    by_cases c2 : ch T m ≤ 51
    · have hin := ch_in (T := T) (i := m) (by omega)
      rw [if_pos (q3.mpr c2), if_pos (show 48 ≤ ch T m ∧ ch T m ≤ 51 by omega), q4 (by omega), show (48 : Int32) = nI 48 from rfl, nI_sub (by omega)]
      refine ⟨_, _, rfl, fun x hx hx2 => ?_⟩
      rw [hx2 rfl]
      exact (h.go (m := m + 1) (i := m + 1) (by omega) (fun _ => ⟨rfl, hin⟩)).stv
    · rw [if_neg (fun q => c2 (q3.mp q)), if_neg (show ¬ (48 ≤ ch T m ∧ ch T m ≤ 51) by omega)]
      exact ⟨_, _, rfl, fun x hx _ => hb2 x hx⟩
