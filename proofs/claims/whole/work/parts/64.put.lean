/-! put and wipe -/
theorem w_cls (x : Int64) {n p : Nat} (hn : n ≤ 8) (hp : p + n ≤ 80) : ∀ (d j fuel : Nat) (X : Blk), j + d = n → d < fuel → X 5 1 = nI p → (∀ i, i < j → X 6 (p + n - 1 - i) = nI (byt x i)) → ∃ X' : Blk, FX3_append_92 fuel x (nI n) (nI (j + 1)) X = some (nI (p + n), X') ∧ X' 5 1 = nI (p + n) ∧ (∀ i, i < n → X' 6 (p + n - 1 - i) = nI (byt x i)) ∧ (∀ i, i < p → X' 6 i = X 6 i) ∧ ∀ q, q ≠ 5 → q ≠ 6 → X' q = X q := by
  intro d
  induction d with
  | zero =>
    intro j fuel X hj hf h1 h2
    obtain ⟨k, rfl⟩ : ∃ k, fuel = k + 1 := ⟨fuel - 1, by omega⟩
    have e : j = n := by omega
    subst e
    refine ⟨bs X 5 1 (nI (p + j)), ?_, bs_kk, fun i hi => by rw [bs_o (by omega)]; exact h2 i hi, fun i hi => by rw [bs_o (by omega)], fun q h5 h6 => bs_o h5⟩
    show FX3_append_92s _ _ _ _ _ = _
    unfold FX3_append_92s
    rw [lt_nI (by omega) (by omega), if_pos (by omega), lt1_eq, h1, nI_add, bs_kk]
  | succ d ih =>
    intro j fuel X hj hf h1 h2
    obtain ⟨k, rfl⟩ : ∃ k, fuel = k + 1 := ⟨fuel - 1, by omega⟩
    obtain ⟨X', g1, g2, g3, g4, g5⟩ := ih (j + 1) k (bs X 6 (p + n - 1 - j) (nI (byt x j))) (by omega) (by omega) (by rw [bs_o (by omega)]; exact h1) (fun i hi => by
      by_cases e : i = j
      · rw [e, bs_kk]
      · rw [bs_kn (by omega)]
        exact h2 i (by omega))
    refine ⟨X', ?_, g2, g3, fun i hi => by rw [g4 i hi, bs_kn (by omega)], fun q h5 h6 => by rw [g5 q h5 h6, bs_o h6]⟩
    show FX3_append_92s _ _ _ _ _ = _
    unfold FX3_append_92s
    rw [lt_nI (by omega) (by omega), if_neg (by omega), h1, nI_add, nI_sub (show j + 1 ≤ p + n by omega), nI_sub1 (by omega), stb_nI (by omega) (by decide), lt1_eq, nI_1, show j + 1 - 1 = j by omega, byt_ch x (by omega), show p + n - (j + 1) = p + n - 1 - j by omega]
    exact g1
theorem w_mod (x : Int64) {n p : Nat} (hn : n ≤ 8) (hp : p + n ≤ 80) : ∀ (d j fuel : Nat) (Z : Blk), j + d = n → d < fuel → Z 0 8 = nI (p + j) → (∀ i, i < j → Z 6 (p + i) = nI (byt x (n - 1 - i))) → ∃ Z' : Blk, FX6_put_97 fuel x (nI d - 1) Z = some (nI (p + n), Z') ∧ Z' 0 8 = nI (p + n) ∧ (∀ i, i < n → Z' 6 (p + i) = nI (byt x (n - 1 - i))) ∧ (∀ i, i < p → Z' 6 i = Z 6 i) ∧ (∀ q, q ≠ 0 → q ≠ 6 → Z' q = Z q) ∧ ∀ q, q ≠ 8 → Z' 0 q = Z 0 q := by
  intro d
  induction d with
  | zero =>
    intro j fuel Z hj hf h1 h2
    obtain ⟨k, rfl⟩ : ∃ k, fuel = k + 1 := ⟨fuel - 1, by omega⟩
    have e : j = n := by omega
    subst e
    refine ⟨Z, ?_, h1, h2, fun i hi => rfl, fun q h5 h6 => rfl, fun q hq => rfl⟩
    show FX6_put_97s _ _ _ _ = _
    unfold FX6_put_97s
    rw [if_pos (by decide), h1]
  | succ d ih =>
    intro j fuel Z hj hf h1 h2
    obtain ⟨k, rfl⟩ : ∃ k, fuel = k + 1 := ⟨fuel - 1, by omega⟩
    obtain ⟨Z', g1, g2, g3, g4, g5, g6⟩ := ih (j + 1) k (bs (bs Z 6 (p + j) (nI (byt x d))) 0 8 (nI (p + j + 1))) (by omega) (by omega) (by rw [bs_kk]; rfl) (fun i hi => by
      rw [bs_o (by omega)]
      by_cases e : i = j
      · rw [e, bs_kk, show n - 1 - j = d by omega]
      · rw [bs_kn (by omega)]
        exact h2 i (by omega))
    refine ⟨Z', ?_, g2, g3, fun i hi => by rw [g4 i hi, bs_o (by omega), bs_kn (by omega)], fun q h5 h6 => by rw [g5 q h5 h6, bs_o h5, bs_o h6], fun q hq => by rw [g6 q hq, bs_kn hq, bs_o (by omega)]⟩
    show FX6_put_97s _ _ _ _ = _
    unfold FX6_put_97s
    rw [nI_sub1 (by omega), show d + 1 - 1 = d by omega, if_neg (nneg (by omega)), h1, stb_nI (by omega) (by decide), lt1_eq, lt1_eq, byt_ch x (by omega), bs_o (by omega), h1, nI_1, ← Int32.sub_eq_add_neg]
    exact g1
def PutG (X Z : Blk) (cx cz : Option (Int32 × Blk)) : Prop := ∃ (r : Int32) (X' Z' : Blk), cx = some (r, X') ∧ cz = some (r, Z') ∧ (∀ q, q ≠ 5 → q ≠ 6 → X' q = X q) ∧ (∀ q, q ≠ 0 → q ≠ 6 → Z' q = Z q) ∧ (∀ q, q ≠ 8 → Z' 0 q = Z 0 q) ∧ PadOK X' Z'
theorem put_end (x : Int64) {n : Nat} {X Z : Blk} {r : Int64} (hP : PadOK X Z) (hn : n ≤ 8) (hr : uN r = 0) (hb : ∀ i, i < n → 33 ≤ byt x i ∧ byt x i ≤ 126) : PutG X Z (FX3_append_60 x r (nI n) X) (FX6_put_66 x (nI n) 1 Z) := by
  have hP0 := hP
  obtain ⟨p, p1, p2, p3, p4⟩ := hP
  unfold FX3_append_60 FX6_put_66
  rw [if_nI0 (by omega), if_nI0 (by omega)]
  by_cases c : n = 0
  · rw [if_pos c, if_pos c]
    exact ⟨_, X, Z, rfl, rfl, fun _ _ _ => rfl, fun _ _ _ => rfl, fun _ _ => rfl, hP0⟩
  · rw [if_neg c, if_neg c, if_pos ((cmp0 r).mpr hr), if_neg (show ¬ (1 : Int32) = 0 by decide), p2, p3, nI_add, show (80 : Int32) = nI 80 from rfl, le_nI (by omega) (by omega), le_nI (by omega) (by omega)]
    by_cases c2 : p + n ≤ 80
    · obtain ⟨X', a1, a2, a3, a4, a5⟩ := w_cls x hn c2 n 0 fu X (by omega) (fu_gt (by omega)) p2 (fun i hi => by omega)
      obtain ⟨Z', b1, b2, b3, b4, b5, b6⟩ := w_mod x hn c2 n 0 fu Z (by omega) (fu_gt (by omega)) p3 (fun i hi => by omega)
      rw [if_pos c2, if_pos c2, lt1_eq]
      refine ⟨_, X', Z', a1, b1, a5, b5, b6, p + n, c2, a2, b2, fun i hi => ?_⟩
      rcases Nat.lt_or_ge i p with q | q
      · obtain ⟨ch, q1, q2, q3, q4⟩ := p4 i q
        exact ⟨ch, q1, q2, by rw [a4 i q]; exact q3, by rw [b4 i q]; exact q4⟩
      · have g := hb (n - 1 - (i - p)) (by omega)
        have u := a3 (n - 1 - (i - p)) (by omega)
        have v := b3 (i - p) (by omega)
        rw [show p + n - 1 - (n - 1 - (i - p)) = i by omega] at u
        rw [show p + (i - p) = i by omega] at v
        exact ⟨_, g.1, g.2, u, v⟩
    · rw [if_neg c2, if_neg c2]
      exact ⟨_, X, Z, rfl, rfl, fun _ _ _ => rfl, fun _ _ _ => rfl, fun _ _ => rfl, hP0⟩
theorem put_bad {x r : Int64} {n : Nat} {k : Nat} {X Z : Blk} (hn : n ≤ 8) (hn0 : n ≠ 0) : FX6_put_11 (k + 1) x (nI n) r 0 (nI n) Z = some (-2, Z) := by
  show FX6_put_11s _ _ _ _ _ _ _ = _
  unfold FX6_put_11s FX6_put_66
  rw [if_nI0 (by omega), if_neg hn0, if_pos (rfl : (0 : Int32) = 0), if_pos (rfl : (0 : Int32) = 0), ite_self, ite_self]
theorem put_both (x : Int64) {X Z : Blk} (hP : PadOK X Z) : ∀ (d n f1 f2 : Nat) (r : Int64), n + d = 8 → d + 1 < f1 → d + 1 < f2 → uN r = uN x >>> (8 * n) → (∀ i, i < n → 33 ≤ byt x i ∧ byt x i ≤ 126) → PutG X Z (FX3_append_5 f1 x r (nI n) X) (FX6_put_11 f2 x (nI n) r 1 (nI n) Z) := by
  intro d
  induction d with
  | zero =>
    intro n f1 f2 r hn h1 h2 hr hb
    obtain ⟨k1', rfl⟩ : ∃ k, f1 = k + 1 := ⟨f1 - 1, by omega⟩
    obtain ⟨k2', rfl⟩ : ∃ k, f2 = k + 1 := ⟨f2 - 1, by omega⟩
    show PutG X Z (FX3_append_5s _ _ _ _ _) (FX6_put_11s _ _ _ _ _ _ _)
    unfold FX3_append_5s FX6_put_11s
    have hk8 : (8 : Int32) ≤ nI n := (nI_leI (a := 8) (by omega) (by omega)).mpr (by omega)
    rw [if_pos hk8, if_pos hk8]
    refine put_end x hP (by omega) ?_ hb
    rw [hr, Nat.shiftRight_eq_div_pow]
    exact Nat.div_eq_of_lt (by have := uN_lt x; have e : 8 * n = 64 := by omega
                               rw [e]; exact this)
  | succ d ih =>
    intro n f1 f2 r hn h1 h2 hr hb
    obtain ⟨k1', rfl⟩ : ∃ k, f1 = k + 1 := ⟨f1 - 1, by omega⟩
    obtain ⟨k2', rfl⟩ : ∃ k, f2 = k + 1 := ⟨f2 - 1, by omega⟩
    obtain ⟨k3', rfl⟩ : ∃ k, k2' = k + 1 := ⟨k2' - 1, by omega⟩
    show PutG X Z (FX3_append_5s _ _ _ _ _) (FX6_put_11s _ _ _ _ _ _ _)
    unfold FX3_append_5s FX6_put_11s
    have hb8 : uN r % 256 = byt x n := by rw [hr]; rfl
    have hl := byt_lt x n
    have hk8 : ¬ (8 : Int32) ≤ nI n := fun q => absurd ((nI_leI (a := 8) (by omega) (by omega)).mp q) (by omega)
    rw [if_neg hk8, if_neg hk8, uN_and, hb8]
    simp only [lt1_eq]
    by_cases c0 : uN r = 0
    · have : byt x n = 0 := by rw [← hb8, c0]
      rw [if_pos ((by_0 _ hl).mpr this), if_pos ((cmp0 r).mpr c0)]
      exact put_end x hP (by omega) c0 hb
    · rw [if_neg (fun q => c0 ((cmp0 r).mp q)), if_neg (show ¬ (1 : Int32) = 0 by decide), by_32 _ hl, q_in, c1_eq]
      have bad : ¬ (33 ≤ byt x n ∧ byt x n ≤ 126) → (if (33 : Int32) ≤ nI (byt x n) ∧ nI (byt x n) ≤ 126 then (1 : Int32) else 0) = 0 := by
        intro h
        refine if_neg (fun q => h ?_)
        rw [show (33 : Int32) = nI 33 from rfl, show (126 : Int32) = nI 126 from rfl, nI_leI (by omega) (by omega), nI_leI (by omega) (by omega)] at q
        exact q
      by_cases c1 : byt x n = 0
      · rw [if_pos ((by_0 _ hl).mpr c1), bad (by omega)]
        unfold FX3_append_60
        rw [if_nI0 (by omega), if_neg (fun q => c0 ((cmp0 r).mp q)), ite_self, nI_1, put_bad (X := X) (by omega) (by omega)]
        exact ⟨_, X, Z, rfl, rfl, fun _ _ _ => rfl, fun _ _ _ => rfl, fun _ _ => rfl, hP⟩
      · rw [if_neg (fun q => c1 ((by_0 _ hl).mp q))]
        by_cases c2 : byt x n < 33
        · rw [if_pos ((by_33 _ hl).mpr c2), bad (by omega), nI_1, put_bad (X := X) (by omega) (by omega)]
          exact ⟨_, X, Z, rfl, rfl, fun _ _ _ => rfl, fun _ _ _ => rfl, fun _ _ => rfl, hP⟩
        · rw [if_neg (fun q => c2 ((by_33 _ hl).mp q))]
          by_cases c3 : byt x n ≤ 126
          · rw [if_pos ((by_126 _ hl).mpr c3), if_pos ⟨(nI_leI (a := 33) (by omega) (by omega)).mpr (by omega), (nI_leI (b := 126) (by omega) (by omega)).mpr c3⟩, nI_1]
            refine ih (n + 1) k1' (k3' + 1) _ (by omega) (by omega) (by omega) ?_ (fun i hi => ?_)
            · rw [sh_1, hr, ← Nat.shiftRight_add, show 8 * n + 8 = 8 * (n + 1) by omega]
            · by_cases e : i = n
              · rw [e]; omega
              · exact hb i (by omega)
          · rw [if_neg (fun q => c3 ((by_126 _ hl).mp q)), bad (by omega), nI_1, put_bad (X := X) (by omega) (by omega)]
            exact ⟨_, X, Z, rfl, rfl, fun _ _ _ => rfl, fun _ _ _ => rfl, fun _ _ => rfl, hP⟩
/-- the texts alone change -/
theorem pad_step {M : Mem} (hI : Inv M) {X Z : Blk} (hX : ∀ q, q ≠ 5 → q ≠ 6 → q ≠ 7 → X q = M 11 q) (hZ : ∀ q, q ≠ 0 → q ≠ 6 → q ≠ 11 → Z q = M 12 q) (hZ0 : ∀ q, q ≠ 8 → q ≠ 16 → q ≠ 17 → q ≠ 18 → Z 0 q = M 12 0 q) (hP : PadOK X Z) : Inv (jb (jb M 11 X) 12 Z) := by
  obtain ⟨hR, hi, h6, ⟨f, k, f1, f2, f3, hH⟩, hS, -⟩ := hI
  have e11 : jb (jb M 11 X) 12 Z 11 = X := by rw [jb_ne (by omega), jb_at]
  refine ⟨?_, ?_, ?_, ⟨f, k, ?_, ?_, ?_, ?_⟩, fun s hs => ?_, ?_⟩
  · rw [jb_ne (by omega), jb_ne (by omega), jb_at, hZ 1 (by omega) (by omega) (by omega)]; exact hR
  · rw [jb_at]; exact ⟨by rw [hZ0 11 (by omega) (by omega) (by omega) (by omega)]; exact hi.1, by rw [hZ0 12 (by omega) (by omega) (by omega) (by omega)]; exact hi.2⟩
  · rw [jb_at, hZ0 6 (by omega) (by omega) (by omega) (by omega)]; exact h6
  · rw [e11, hX 3 (by omega) (by omega) (by omega)]; exact f1
  · rw [e11, hX 3 (by omega) (by omega) (by omega)]; exact f2
  · rw [jb_at, hZ0 5 (by omega) (by omega) (by omega) (by omega)]; exact f3
  · rw [jb_at, hZ 2 (by omega) (by omega) (by omega)]
    refine hH.cg (fun i hi => ?_) (fun _ _ => rfl)
    show jb (jb M 11 X) 12 Z (4 + (f + i) % 7) = M (4 + (f + i) % 7)
    rw [jb_ne (by omega), jb_ne (by omega)]
  · rw [e11, jb_at, jb_ne (by omega), jb_ne (by omega), hX 2 (by omega) (by omega) (by omega), hZ 3 (by omega) (by omega) (by omega), hZ 4 (by omega) (by omega) (by omega)]
    exact hS s hs
  · rw [e11, jb_at]; exact hP
theorem s_put (M : Mem) (a1 : Int64) (h : Inv M) : ∃ M' : Mem, LO_put M a1 = some M' ∧ Inv M' := by
  obtain ⟨r, X, Z, x1, x2, x3, x4, x5, x6⟩ := put_both a1 h.2.2.2.2.2 8 0 fu fu a1 (by omega) (fu_gt (by omega)) (fu_gt (by omega)) (by rw [Nat.mul_zero, Nat.shiftRight_zero]) (fun i hi => by omega)
  refine ⟨_, ?_, pad_step h (fun q h5 h6 _ => x3 q h5 h6) (fun q h0 h6 _ => x4 q h0 h6) (fun q h8 _ _ _ => x5 q h8) x6⟩
  unfold LO_put FX5_put FX3_append FX6_put
  rw [k0, x1, c2_eq, lt1_eq, c2_eq, jb_ne (show (12 : Nat) ≠ 11 by omega), x2, c2_eq, if_pos rfl]
theorem pad_0 {X Z : Blk} : PadOK (bs X 5 1 0) (bs Z 0 8 0) := ⟨0, by omega, bs_kk, bs_kk, fun i hi => by omega⟩
theorem s_wipe (M : Mem) (h : Inv M) : ∃ M' : Mem, LO_wipe M = some M' ∧ Inv M' := by
  obtain ⟨p, p1, p2, p3, p4⟩ := h.2.2.2.2.2
  refine ⟨_, ?_, pad_step h (X := bs (M 11) 5 1 0) (Z := bs (M 12) 0 8 0) (fun q h5 _ _ => bs_o h5) (fun q h0 _ _ => bs_o h0) (fun q h8 _ _ _ => bs_kn h8) pad_0⟩
  unfold LO_wipe FX5_wipe FX3_clear FX6_wipe
  rw [lt1_eq, lt1_eq, c2_eq, lt1_eq, c2_eq, jb_ne (show (12 : Nat) ≠ 11 by omega), lt1_eq, lt1_eq, c2_eq, if_pos (by rw [p2, p3])]
