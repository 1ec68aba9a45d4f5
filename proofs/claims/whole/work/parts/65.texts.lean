/-! texts: what an order reads (spec), and the class's reader -/
abbrev TX : Type := Nat × (Nat → Nat)
def ch (T : TX) (i : Nat) : Nat := if i < T.1 then T.2 i else 0
def TOK (T : TX) : Prop := T.1 ≤ 80 ∧ ∀ i, i < T.1 → 33 ≤ T.2 i ∧ T.2 i ≤ 126
def XT (T : TX) (X : Blk) : Prop := X 5 1 = nI T.1 ∧ ∀ i, i < T.1 → X 6 i = nI (T.2 i)
def ZT (T : TX) (Z : Blk) : Prop := Z 0 8 = nI T.1 ∧ ∀ i, i < T.1 → Z 6 i = nI (T.2 i)
theorem pad_text {X Z : Blk} (h : PadOK X Z) : ∃ T : TX, TOK T ∧ XT T X ∧ ZT T Z := by
  obtain ⟨p, p1, p2, p3, p4⟩ := h
  refine ⟨(p, fun i => (X 6 i).toNatClampNeg), ⟨p1, fun i hi => ?_⟩, ⟨p2, fun i hi => ?_⟩, ⟨p3, fun i hi => ?_⟩⟩ <;> obtain ⟨c, c1, c2, c3, c4⟩ := p4 i hi
  · show 33 ≤ (X 6 i).toNatClampNeg ∧ (X 6 i).toNatClampNeg ≤ 126
    rw [c3, nI_clamp (by omega)]
    exact ⟨c1, c2⟩
  · show X 6 i = nI (X 6 i).toNatClampNeg
    rw [c3, nI_clamp (by omega)]
  · show Z 6 i = nI (X 6 i).toNatClampNeg
    rw [c3, nI_clamp (by omega), c4]
theorem text_pad {T : TX} {X Z : Blk} (hT : TOK T) (hX : XT T X) (hZ : ZT T Z) : PadOK X Z :=
  ⟨T.1, hT.1, hX.1, hZ.1, fun i hi => ⟨T.2 i, (hT.2 i hi).1, (hT.2 i hi).2, hX.2 i hi, hZ.2 i hi⟩⟩
theorem ch_in {T : TX} {i : Nat} (h : ch T i ≠ 0) : i < T.1 := by
  unfold ch at h
  by_cases c : i < T.1
  · exact c
  · rw [if_neg c] at h; exact absurd rfl h
theorem ch_le {T : TX} (hT : TOK T) (i : Nat) : ch T i ≤ 126 := by
  unfold ch
  by_cases c : i < T.1
  · rw [if_pos c]; exact (hT.2 i c).2
  · rw [if_neg c]; omega
abbrev isDg (T : TX) (i : Nat) : Prop := 48 ≤ ch T i ∧ ch T i ≤ 57
theorem isDg_in {T : TX} {i : Nat} (h : isDg T i) : i < T.1 := ch_in (by unfold isDg at h; omega)
def nmL (T : TX) : Nat → Nat → Nat → Nat × Nat
  | 0, v, i => (v, i)
  | d + 1, v, i => if 0 < v ∧ isDg T i then nmL T d (10 * v + ch T i - 48) (i + 1) else (v, i)
theorem nmL_p {T : TX} : ∀ (d v i : Nat), i ≤ T.1 → i ≤ (nmL T d v i).2 ∧ (nmL T d v i).2 ≤ T.1 := by
  intro d
  induction d with
  | zero => intro v i h; exact ⟨Nat.le_refl _, h⟩
  | succ d ih =>
    intro v i h
    show i ≤ (if 0 < v ∧ isDg T i then nmL T d (10 * v + ch T i - 48) (i + 1) else (v, i)).2 ∧ (if 0 < v ∧ isDg T i then nmL T d (10 * v + ch T i - 48) (i + 1) else (v, i)).2 ≤ T.1
    by_cases c : 0 < v ∧ isDg T i
    · rw [if_pos c]
      have := isDg_in c.2
      have := ih (10 * v + ch T i - 48) (i + 1) (by omega)
      omega
    · rw [if_neg c]
      exact ⟨Nat.le_refl _, h⟩
def nV (T : TX) (i : Nat) : Nat := (nmL T 4 (ch T i - 48) (i + 1)).1
def nN (T : TX) (i : Nat) : Nat := (nmL T 4 (ch T i - 48) (i + 1)).2
theorem nN_p {T : TX} {i : Nat} (h : isDg T i) : i < nN T i ∧ nN T i ≤ T.1 := by
  have := nmL_p (T := T) 4 (ch T i - 48) (i + 1) (isDg_in h)
  unfold nN
  omega
/-- flag, position, numbers read, the numbers -/
abbrev St : Type := Nat × Nat × Nat × (Nat → Int32)
def tSign (T : TX) (c : Nat) (s : St) : St := if s.1 = 0 then s else if ch T s.2.1 = c then (1, s.2.1 + 1, s.2.2) else (0, s.2)
def tNum (T : TX) (s : St) : St := if s.1 = 0 then s else if isDg T s.2.1 then (1, nN T s.2.1, s.2.2.1 + 1, upd s.2.2.2 s.2.2.1 (nI (nV T s.2.1))) else (0, s.2)
def tMach (T : TX) (s : St) : St := if s.1 = 0 then s else if 48 ≤ ch T s.2.1 ∧ ch T s.2.1 ≤ 51 then (1, s.2.1 + 1, s.2.2.1 + 1, upd s.2.2.2 s.2.2.1 (nI (ch T s.2.1 - 48))) else (0, s.2)
def tOpt (T : TX) (s : St) : St := if s.1 = 0 then s else if ch T s.2.1 = 94 then tNum T (1, s.2.1 + 1, s.2.2) else (1, s.2.1, s.2.2.1 + 1, upd s.2.2.2 s.2.2.1 (-6))
def st0 (i : Nat) : St := (1, i, 0, fun _ => 0)
def tPair (T : TX) (c : Nat) (s : St) : St := tNum T (tSign T c (tNum T s))
def tTask (T : TX) (s : St) : St := tOpt T (tNum T (tSign T 36 (tNum T (tSign T 60 (tNum T (tSign T 47 (tMach T s)))))))
def ordr (T : TX) (i : Nat) : St :=
  if ch T i = 100 then tPair T 61 (st0 (i + 1))
  else if ch T i = 109 then tPair T 58 (st0 (i + 1))
  else if ch T i = 111 then tNum T (tSign T 64 (tPair T 42 (st0 (i + 1))))
  else if ch T i = 114 then tPair T 42 (st0 (i + 1))
  else if ch T i = 116 then tTask T (st0 (i + 1))
  else tSign T 120 (st0 i)
/-- flag -/
theorem f01_sign {T : TX} {c : Nat} {s : St} (h : s.1 = 0 ∨ s.1 = 1) : (tSign T c s).1 = 0 ∨ (tSign T c s).1 = 1 := by
  unfold tSign
  by_cases c1 : s.1 = 0
  · rw [if_pos c1]; exact h
  · rw [if_neg c1]
    by_cases c2 : ch T s.2.1 = c
    · rw [if_pos c2]; exact Or.inr rfl
    · rw [if_neg c2]; exact Or.inl rfl
theorem f01_num {T : TX} {s : St} (h : s.1 = 0 ∨ s.1 = 1) : (tNum T s).1 = 0 ∨ (tNum T s).1 = 1 := by
  unfold tNum
  by_cases c1 : s.1 = 0
  · rw [if_pos c1]; exact h
  · rw [if_neg c1]
    by_cases c2 : isDg T s.2.1
    · rw [if_pos c2]; exact Or.inr rfl
    · rw [if_neg c2]; exact Or.inl rfl
theorem tSign_0 {T : TX} {c : Nat} {s : St} (h : s.1 = 0) : tSign T c s = s := if_pos h
theorem tNum_0 {T : TX} {s : St} (h : s.1 = 0) : tNum T s = s := if_pos h
theorem tMach_0 {T : TX} {s : St} (h : s.1 = 0) : tMach T s = s := if_pos h
theorem tOpt_0 {T : TX} {s : St} (h : s.1 = 0) : tOpt T s = s := if_pos h
/-- the class's reader at a state -/
def XS (T : TX) (X0 : Blk) (kd : Int32) (X : Blk) (s : St) : Prop := (∀ q, q ≠ 5 → q ≠ 7 → X q = X0 q) ∧ X 5 1 = X0 5 1 ∧ X 5 2 = nI s.2.1 ∧ X 5 3 = kd ∧ X 5 5 = nI s.2.2.1 ∧ s.2.1 ≤ T.1 ∧ ∀ j, j < s.2.2.1 → X 7 j = s.2.2.2 j
theorem XS.xt {T : TX} {X0 X : Blk} {kd : Int32} {s : St} (h : XS T X0 kd X s) (h0 : XT T X0) : XT T X :=
  ⟨by rw [h.2.1]; exact h0.1, fun i hi => by rw [h.1 6 (by omega) (by omega)]; exact h0.2 i hi⟩
theorem XS.fl {T : TX} {X0 X : Blk} {kd : Int32} {s : St} (h : XS T X0 kd X s) (n : Nat) : XS T X0 kd X (n, s.2) := h
theorem c_here {T : TX} {X : Blk} {i : Nat} (hT : TOK T) (hX : XT T X) (hp : X 5 2 = nI i) (hi : i ≤ T.1) : FX3_here X = some (nI (ch T i)) := by
  have := hT.1
  unfold FX3_here ch
  rw [hp, if_neg (nneg (by omega)), hX.1, le_nI (by omega) (by omega)]
  by_cases c : i < T.1
  · rw [if_neg (by omega), if_pos c, ld_nI (by omega) (by decide), hX.2 i c]
  · rw [if_pos (by omega), if_neg c]; rfl
theorem c_digit {T : TX} {X : Blk} {i : Nat} (hT : TOK T) (hX : XT T X) (hp : X 5 2 = nI i) (hi : i ≤ T.1) : (isDg T i → FX3_isDigit X = some 1) ∧ (¬ isDg T i → FX3_isDigit X = some 0) := by
  have h := c_here hT hX hp hi
  have hl := ch_le hT i
  unfold FX3_isDigit
  rw [h, c1_eq, c1_eq, show (48 : Int32) = nI 48 from rfl, show (57 : Int32) = nI 57 from rfl, lt_nI (by omega) (by omega), lt_nI (by omega) (by omega)]
  constructor
  · intro d
    unfold isDg at d
    rw [if_neg (by omega), if_neg (by omega)]
  · intro d
    by_cases c : ch T i < 48
    · rw [if_pos c]
    · rw [if_neg c, if_pos (by unfold isDg at d; omega)]
theorem c_sign {T : TX} {X0 X : Blk} {kd : Int32} {s : St} {c : Nat} (hT : TOK T) (h0 : XT T X0) (h : XS T X0 kd X s) (hf : s.1 = 1) (hc : c ≠ 0 ∧ c ≤ 126) : ∃ X' : Blk, FX3_readSign X (nI c) = some (nI (tSign T c s).1, X') ∧ XS T X0 kd X' (tSign T c s) := by
  have hh := c_here hT (h.xt h0) h.2.2.1 h.2.2.2.2.2.1
  have hl := ch_le hT s.2.1
  unfold FX3_readSign tSign
  rw [hh, c1_eq, eq_nI (by omega) (by omega), if_neg (show ¬ s.1 = 0 by omega)]
  by_cases e : ch T s.2.1 = c
  · have hin := ch_in (T := T) (i := s.2.1) (by omega)
    rw [if_pos e, if_pos e, lt1_eq, h.2.2.1, nI_1]
    refine ⟨_, rfl, fun q h5 h7 => by rw [bs_o h5]; exact h.1 q h5 h7, by rw [bs_kn (by omega)]; exact h.2.1, bs_kk, by rw [bs_kn (by omega)]; exact h.2.2.2.1, by rw [bs_kn (by omega)]; exact h.2.2.2.2.1, hin, fun j hj => by rw [bs_o (by omega)]; exact h.2.2.2.2.2.2 j hj⟩
  · rw [if_neg e, if_neg e]
    exact ⟨_, rfl, h⟩
theorem c_keep {T : TX} {X0 X : Blk} {kd v : Int32} {f i r : Nat} {a : Nat → Int32} (h : XS T X0 kd X (f, i, r, a)) (hr : r < 5) : ∃ X' : Blk, FX3_keep X v = some (1, X') ∧ XS T X0 kd X' (f, i, r + 1, upd a r v) := by
  obtain ⟨h1, h2, h3, h4, h5, h6, h7⟩ := h
  have h5' : X 5 5 = nI r := h5
  unfold FX3_keep
  rw [h5', k5, lt_nI (by omega) (by omega), if_pos hr, stb_nI (by omega) (by decide), lt1_eq, bs_o (show (5 : Nat) ≠ 7 by omega), h5', nI_1]
  refine ⟨_, rfl, fun q q5 q7 => by rw [bs_o q5, bs_o q7]; exact h1 q q5 q7, by rw [bs_kn (by omega), bs_o (by omega)]; exact h2, by rw [bs_kn (by omega), bs_o (by omega)]; exact h3, by rw [bs_kn (by omega), bs_o (by omega)]; exact h4, bs_kk, h6, fun j hj => ?_⟩
  rw [bs_o (by omega)]
  show bs X 7 r v 7 j = upd a r v j
  rw [b1_eq]
  by_cases e : j = r
  · rw [e, upd_at, upd_at]
  · have hj' : j < r + 1 := hj
    rw [upd_ne e, upd_ne e]
    exact h7 j (by show j < r; omega)
theorem c_numL {T : TX} {X0 : Blk} {kd : Int32} {r : Nat} {a : Nat → Int32} (hT : TOK T) (h0 : XT T X0) : ∀ (d v i fuel : Nat) (X : Blk), d ≤ 4 → (v + 1) * 10 ^ d ≤ 100000 → d < fuel → XS T X0 kd X (1, i, r, a) → ∃ X' : Blk, FX3_readNumber_13 fuel (nI v) (nI (5 - d)) X = FX3_readNumber_62 (nI (nmL T d v i).1) X' ∧ XS T X0 kd X' (1, (nmL T d v i).2, r, a) := by
  intro d
  induction d with
  | zero =>
    intro v i fuel X hd hv hf h
    obtain ⟨k, rfl⟩ : ∃ k, fuel = k + 1 := ⟨fuel - 1, by omega⟩
    refine ⟨X, ?_, h⟩
    show FX3_readNumber_13s _ _ _ _ = _
    unfold FX3_readNumber_13s
    rw [if_pos (show (5 : Int32) ≤ nI (5 - 0) by decide)]
    rfl
  | succ d ih =>
    intro v i fuel X hd hv hf h
    obtain ⟨k, rfl⟩ : ∃ k, fuel = k + 1 := ⟨fuel - 1, by omega⟩
    have hp : 10 ^ (d + 1) ≥ 10 := by
      rw [Nat.pow_succ]
      have := Nat.pow_pos (n := d) (show 0 < 10 by omega)
      omega
    have hvb : v < 100000 := by
      have := Nat.le_mul_of_pos_right (v + 1) (show 0 < 10 ^ (d + 1) by omega)
      omega
    have hd := c_digit hT (h.xt h0) h.2.2.1 h.2.2.2.2.2.1
    have hh : FX3_here X = some (nI (ch T i)) := c_here hT (h.xt h0) h.2.2.1 h.2.2.2.2.2.1
    have hl := ch_le hT i
    show ∃ X' : Blk, FX3_readNumber_13s _ _ _ _ = FX3_readNumber_62 (nI (if 0 < v ∧ isDg T i then nmL T d (10 * v + ch T i - 48) (i + 1) else (v, i)).1) X' ∧ XS T X0 kd X' (1, (if 0 < v ∧ isDg T i then nmL T d (10 * v + ch T i - 48) (i + 1) else (v, i)).2, r, a)
    unfold FX3_readNumber_13s
    rw [k5, le_nI (by omega) (by omega), if_neg (by omega)]
    by_cases c1 : isDg T i
    · rw [hd.1 c1, c1_eq, if_neg (show ¬ (1 : Int32) = 0 by decide), if_nI0 (by omega), if_neg (by omega), k0, le_nI (by omega) (by omega)]
      by_cases c2 : v ≤ 0
      · rw [if_pos c2, if_neg (fun q => by omega)]
        exact ⟨X, rfl, h⟩
      · rw [if_neg c2, if_pos ⟨by omega, c1⟩]
        have hin := isDg_in c1
        have c1' := c1
        unfold isDg at c1'
        have hX' : XS T X0 kd (bs X 5 2 (nI (i + 1))) (1, i + 1, r, a) := ⟨fun q h5 h7 => by rw [bs_o h5]; exact h.1 q h5 h7, by rw [bs_kn (by omega)]; exact h.2.1, bs_kk, by rw [bs_kn (by omega)]; exact h.2.2.2.1, by rw [bs_kn (by omega)]; exact h.2.2.2.2.1, hin, fun j hj => by rw [bs_o (by omega)]; exact h.2.2.2.2.2.2 j hj⟩
        obtain ⟨X', g1, g2⟩ := ih (10 * v + ch T i - 48) (i + 1) k _ (by omega) (by
          rw [Nat.pow_succ] at hv
          have : (10 * v + ch T i - 48 + 1) * 10 ^ d ≤ ((v + 1) * 10) * 10 ^ d := Nat.mul_le_mul_right _ (by omega)
          rw [Nat.mul_assoc] at this
          rw [Nat.mul_comm (10 ^ d) 10] at hv
          omega) (by omega) hX'
        refine ⟨X', ?_, g2⟩
        unfold FX3_readNumber_33
        rw [hh, c1_eq, lt1_eq, lt1_eq, lt1_eq, h.2.2.1, nI_1, nI_1, show (10 : Int32) = nI 10 from rfl, pk_mul, nI_add, show (48 : Int32) = nI 48 from rfl, nI_sub (by omega), show 5 - (d + 1) + 1 = 5 - d by omega, Nat.mul_comm v 10]
        exact g1
    · rw [hd.2 c1, c1_eq, if_pos rfl, if_neg (fun q => c1 q.2)]
      exact ⟨X, rfl, h⟩
theorem c_num {T : TX} {X0 X : Blk} {kd : Int32} {s : St} (hT : TOK T) (h0 : XT T X0) (h : XS T X0 kd X s) (hf : s.1 = 1) (hr : s.2.2.1 < 5) : ∃ X' : Blk, FX3_readNumber X = some (nI (tNum T s).1, X') ∧ XS T X0 kd X' (tNum T s) := by
  obtain ⟨f, i, r, a⟩ := s
  have hf' : f = 1 := hf
  subst hf'
  have hd := c_digit hT (h.xt h0) h.2.2.1 h.2.2.2.2.2.1
  have hh : FX3_here X = some (nI (ch T i)) := c_here hT (h.xt h0) h.2.2.1 h.2.2.2.2.2.1
  have hl := ch_le hT i
  unfold FX3_readNumber tNum
  rw [if_neg (show ¬ (1 : Nat) = 0 by omega)]
  by_cases c1 : isDg T i
  · have hin := isDg_in c1
    have c1' := c1
    unfold isDg at c1'
    have hX' : XS T X0 kd (bs X 5 2 (nI (i + 1))) (1, i + 1, r, a) := ⟨fun q h5 h7 => by rw [bs_o h5]; exact h.1 q h5 h7, by rw [bs_kn (by omega)]; exact h.2.1, bs_kk, by rw [bs_kn (by omega)]; exact h.2.2.2.1, by rw [bs_kn (by omega)]; exact h.2.2.2.2.1, hin, fun j hj => by rw [bs_o (by omega)]; exact h.2.2.2.2.2.2 j hj⟩
    obtain ⟨X', g1, g2⟩ := c_numL hT h0 4 (ch T i - 48) (i + 1) (fu - 1) _ (by omega) (by omega) (by decide) hX'
    obtain ⟨X'', k1', k2'⟩ := c_keep (v := nI (nV T i)) g2 hr
    refine ⟨X'', ?_, ?_⟩
    · rw [hd.1 c1, c1_eq, if_neg (show ¬ (1 : Int32) = 0 by decide), if_pos c1]
      show FX3_readNumber_13s (FX3_readNumber_13 (fu - 1)) _ _ _ = _
      unfold FX3_readNumber_13s
      rw [if_neg (show ¬ (5 : Int32) ≤ 0 by decide), hd.1 c1, c1_eq, if_neg (show ¬ (1 : Int32) = 0 by decide), if_pos rfl]
      unfold FX3_readNumber_33
      rw [hh, c1_eq, lt1_eq, lt1_eq, lt1_eq, h.2.2.1, nI_1, show (0 : Int32) * 10 = 0 from rfl, show (0 : Int32) + 1 = nI (5 - 4) from rfl, Int32.zero_add, show (48 : Int32) = nI 48 from rfl, nI_sub (by omega)]
      refine g1.trans ?_
      unfold FX3_readNumber_62
      rw [show nI (nmL T 4 (ch T i - 48) (i + 1)).1 = nI (nV T i) from rfl, k1', c2_eq]
      rfl
    · rw [if_pos c1]; exact k2'
  · rw [hd.2 c1, c1_eq, if_pos rfl, if_neg c1]
    exact ⟨X, rfl, h⟩
