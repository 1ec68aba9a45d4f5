/-! Plan: what its reads answer -/
theorem k2 : (2 : Int32) = nI 2 := rfl
theorem k3 : (3 : Int32) = nI 3 := rfl
theorem k4 : (4 : Int32) = nI 4 := rfl
theorem k5 : (5 : Int32) = nI 5 := rfl
theorem k6 : (6 : Int32) = nI 6 := rfl
theorem k24 : (24 : Int32) = nI 24 := rfl
theorem ite_bool {p : Prop} {h : Decidable p} {α : Type} {x y : α} : (if (if p then (1 : Int32) else 0) = 0 then x else y) = if p then y else x := by
  by_cases hp : p
  · rw [if_pos hp, if_pos hp]; rfl
  · rw [if_neg hp, if_neg hp]; rfl
theorem inT_dec {n : Nat} {x : Int32} : inT n x ↔ ¬ x < 0 ∧ ¬ nI n ≤ x := by
  unfold inT
  constructor
  · intro h
    exact ⟨Int32.not_lt.mpr h.1, Int32.not_le.mpr h.2⟩
  · intro h
    exact ⟨Int32.not_lt.mp h.1, Int32.not_le.mp h.2⟩
theorem p_has {B : Blk} {n : Nat} (hn : B 1 0 = nI n) (x : Int32) : (inT n x → FX4_has B x = some 1) ∧ (¬ inT n x → FX4_has B x = some 0) := by
  unfold FX4_has
  rw [hn]
  by_cases h1 : x < 0
  · exact ⟨fun h => absurd h1 (inT_dec.mp h).1, fun _ => by rw [if_pos h1]⟩
  · by_cases h2 : nI n ≤ x
    · exact ⟨fun h => absurd h2 (inT_dec.mp h).2, fun _ => by rw [if_neg h1, if_pos h2]⟩
    · exact ⟨fun _ => by rw [if_neg h1, if_neg h2], fun h => absurd (inT_dec.mpr ⟨h1, h2⟩) h⟩
theorem p_has_nI {B : Blk} {n t : Nat} (hn : B 1 0 = nI n) (h : n ≤ 24) (ht : t < n) : FX4_has B (nI t) = some 1 := (p_has hn _).1 (inT_nI ht (by omega))
theorem inT_aI {n a : Nat} (hn : n ≤ 24) (ha : a < n ∨ a = 99) : inT n (aI a) ↔ a < 24 := by
  constructor
  · intro h
    rcases ha with ha | rfl
    · omega
    · exact absurd h.1 (by decide)
  · intro h
    rw [aI_lt h]
    exact inT_nI (by omega) (by omega)
theorem p_has_aI {B : Blk} {n a : Nat} (hn : B 1 0 = nI n) (h : n ≤ 24) (ha : a < n ∨ a = 99) : FX4_has B (aI a) = some (if a < 24 then 1 else 0) := by
  by_cases c : a < 24
  · rw [if_pos c]; exact (p_has hn _).1 ((inT_aI h ha).mpr c)
  · rw [if_neg c]; exact (p_has hn _).2 (fun q => c ((inT_aI h ha).mp q))
theorem cnt_le (mach : Nat → Nat) (n m : Nat) : cnt mach n m ≤ n := by
  induction n with
  | zero => exact Nat.le_refl _
  | succ n ih =>
    rw [cnt]
    split <;> omega
theorem cn_le {P : PD} (hP : Pln P) (m : Nat) : cn P m ≤ 24 := Nat.le_trans (cnt_le _ _ _) hP.1
theorem p_inRow {B : Blk} {P : PD} (hP : Pln P) (hB : BPl B P) {m p : Nat} (hm : m < 4) (hp : p < 2 ^ 31) : FX4_inRow B (nI m) (nI p) = some (aI (ra P m p)) := by
  unfold FX4_inRow
  have hc := cn_le hP m
  rw [if_neg (nneg (by omega)), k4, le_nI (by decide) (by omega), if_neg (by omega), if_neg (nneg hp), ld_nI hm (by decide), hB.2.2.1 m hm, lt_nI hp (by omega)]
  by_cases c : p < cn P m
  · rw [if_pos c, k24, pk_mul, nI_add, ld_nI (by omega) (by decide)]
    obtain ⟨h1, h2, h3⟩ := ra_some hP hm c
    have h4 := hB.2.2.2 _ h1
    rw [h2, h3] at h4
    rw [Nat.mul_comm, h4, aI_lt (by have := hP.1; omega)]
  · rw [if_neg c, ra_none (fun t ht h => c (by have := (hP.2.1 t ht).2.2.2.2; rw [h.1, h.2] at this; exact this))]
    rfl
theorem p_inRow_neg {B : Blk} {P : PD} {x y : Int32} (hy : y < 0) : FX4_inRow B x y = some (-6) := by
  unfold FX4_inRow
  rw [if_pos hy]
  split
  · rfl
  · split <;> rfl
theorem nI_sub1 {p : Nat} (hp : p ≠ 0) : nI p - (1 : Int32) = nI (p - 1) := by
  obtain ⟨q, rfl⟩ : ∃ q, p = q + 1 := ⟨p - 1, by omega⟩
  rw [nI_pred]
  rfl
theorem p_inRow_pred {B : Blk} {P : PD} (hP : Pln P) (hB : BPl B P) {m p : Nat} (hm : m < 4) (hp : p < 2 ^ 31) : FX4_inRow B (nI m) (nI p - (1 : Int32)) = some (aI (if p = 0 then 99 else ra P m (p - 1))) := by
  by_cases c : p = 0
  · subst c
    rw [if_pos rfl]
    exact p_inRow_neg (P := P) (by decide)
  · rw [if_neg c, nI_sub1 c]
    exact p_inRow hP hB hm (by omega)
theorem p_placeOf {B : Blk} {P : PD} (hP : Pln P) (hB : BPl B P) {t : Nat} (ht : t < pn P) : FX4_placeOf B (nI t) = some (nI (pp P t)) := by
  have hn := hP.1
  obtain ⟨hm, hd1, hd2, ha, hpl⟩ := hP.2.1 t ht
  have hc := cn_le hP (pm P t)
  unfold FX4_placeOf
  rw [ld_nI (by omega) (by decide), (hB.2.1 t ht).1]
  have key : ∀ d q fuel, q + d = pp P t → d < fuel → FX4_placeOf_9 B fuel (nI t) (nI (pm P t)) (nI q) = some (nI (pp P t)) := by
    intro d
    induction d with
    | zero =>
      intro q fuel hq hf
      obtain ⟨k, rfl⟩ : ∃ k, fuel = k + 1 := ⟨fuel - 1, by omega⟩
      have e : q = pp P t := by omega
      subst e
      show FX4_placeOf_9s B _ _ _ _ = _
      unfold FX4_placeOf_9s
      rw [ld_nI hm (by decide), hB.2.2.1 _ hm, le_nI (by omega) (by omega), if_neg (by omega), p_inRow hP hB hm (by omega), c1_eq, ra_of hP ht, aI_lt (by omega), if_pos rfl]
    | succ d ih =>
      intro q fuel hq hf
      obtain ⟨k, rfl⟩ : ∃ k, fuel = k + 1 := ⟨fuel - 1, by omega⟩
      show FX4_placeOf_9s B _ _ _ _ = _
      unfold FX4_placeOf_9s
      obtain ⟨r1, r2, r3⟩ := ra_some hP hm (show q < cn P (pm P t) by omega)
      rw [ld_nI hm (by decide), hB.2.2.1 _ hm, le_nI (by omega) (by omega), if_neg (by omega), p_inRow hP hB hm (by omega), c1_eq, aI_lt (by omega), eq_nI (by omega) (by omega), if_neg (fun e => by rw [e] at r3; omega), lt1_eq, k1, nI_add]
      exact ih (q + 1) k (by omega) (by omega)
  exact key (pp P t) 0 fu (by omega) (fu_gt (by omega))
theorem p_inFrontOf {B : Blk} {P : PD} (hP : Pln P) (hB : BPl B P) {t : Nat} (ht : t < pn P) : FX4_inFrontOf B (nI t) = some (aI (fr P t)) := by
  have hn := hP.1
  obtain ⟨hm, hd1, hd2, ha, hpl⟩ := hP.2.1 t ht
  have hc := cn_le hP (pm P t)
  unfold FX4_inFrontOf
  rw [ld_nI (by omega) (by decide), (hB.2.1 t ht).1, p_placeOf hP hB ht, c1_eq, p_inRow_pred hP hB hm (by omega), c1_eq]
  rfl
theorem fr_or {P : PD} (hn : pn P ≤ 24) (t : Nat) : fr P t < pn P ∨ fr P t = 99 := by
  by_cases c : fr P t < 24
  · exact Or.inl (fr_lt hn c).1
  · exact Or.inr (fr_99 hn c)
theorem pa_or {P : PD} (hP : Pln P) {t : Nat} (ht : t < pn P) : pa P t < pn P ∨ pa P t = 99 := by
  rcases (hP.2.1 t ht).2.2.2.1 with h | h
  · exact Or.inl (by omega)
  · exact Or.inr h
theorem p_endOf {B : Blk} {n a : Nat} {E : Nat → Nat} (hn : B 1 0 = nI n) (h : n ≤ 24) (hE : ∀ t, t < n → B 6 t = nI (E t)) (ha : a < n ∨ a = 99) : FX4_endOf B (aI a) = some (nI (e0 E a)) := by
  unfold FX4_endOf e0
  rcases ha with ha | rfl
  · rw [aI_lt (by omega), if_neg (nneg (by omega)), hn, le_nI (by omega) (by omega), if_neg (by omega), ld_nI (by omega) (by decide), hE a ha, if_pos (by omega)]
  · rfl
theorem p_endOf_x {B : Blk} {n : Nat} (hn : B 1 0 = nI n) (h : n ≤ 24) {t : Nat} (ht : t < n) : FX4_endOf B (nI t) = some (B 6 t) := by
  unfold FX4_endOf
  rw [if_neg (nneg (by omega)), hn, le_nI (by omega) (by omega), if_neg (by omega), ld_nI (by omega) (by decide)]
theorem p_startOf {B : Blk} {t : Nat} (ht : t < 24) : FX4_startOf B (nI t) = some (B 6 t - B 4 t) := by
  unfold FX4_startOf
  rw [ld_nI ht (by decide), ld_nI ht (by decide)]
/-- the greatest of some numbers -/
def maxN (f : Nat → Nat) : Nat → Nat
  | 0 => 0
  | n + 1 => max (maxN f n) (f n)
theorem maxN_le {f : Nat → Nat} {n b : Nat} (h : ∀ t, t < n → f t ≤ b) : maxN f n ≤ b := by
  induction n with
  | zero => exact Nat.zero_le _
  | succ n ih =>
    rw [maxN]
    exact Nat.max_le.mpr ⟨ih (fun t ht => h t (by omega)), h n (by omega)⟩
theorem maxN_ge {f : Nat → Nat} {n t : Nat} (h : t < n) : f t ≤ maxN f n := by
  induction n with
  | zero => omega
  | succ n ih =>
    rw [maxN]
    rcases Nat.lt_or_ge t n with q | q
    · have := ih q; omega
    · have e : t = n := by omega
      subst e; omega
theorem max_nI {a b : Nat} (ha : a < 2 ^ 31) (hb : b < 2 ^ 31) : (if nI a < nI b then nI b else nI a) = nI (max a b) := by
  rw [lt_nI ha hb]
  by_cases c : a < b
  · rw [if_pos c, Nat.max_eq_right (by omega)]
  · rw [if_neg c, Nat.max_eq_left (by omega)]
theorem p_endOfAll {B : Blk} {n : Nat} {E : Nat → Nat} (hn : B 1 0 = nI n) (h : n ≤ 24) (hE : ∀ t, t < n → B 6 t = nI (E t)) (hb : ∀ t, t < n → E t < 2 ^ 31) : FX4_endOfAll B = some (nI (maxN E n)) := by
  unfold FX4_endOfAll
  have key : ∀ d t fuel, t + d = n → d < fuel → FX4_endOfAll_4 B fuel (nI (maxN E t)) (nI t) = some (nI (maxN E n)) := by
    intro d
    induction d with
    | zero =>
      intro t fuel ht hf
      obtain ⟨k, rfl⟩ : ∃ k, fuel = k + 1 := ⟨fuel - 1, by omega⟩
      have e : t = n := by omega
      subst e
      show FX4_endOfAll_4s B _ _ _ = _
      unfold FX4_endOfAll_4s
      rw [hn, le_nI (by omega) (by omega), if_pos (Nat.le_refl _)]
    | succ d ih =>
      intro t fuel ht hf
      obtain ⟨k, rfl⟩ : ∃ k, fuel = k + 1 := ⟨fuel - 1, by omega⟩
      show FX4_endOfAll_4s B _ _ _ = _
      unfold FX4_endOfAll_4s
      have hm : maxN E t < 2 ^ 31 := Nat.lt_of_le_of_lt (maxN_le (b := 2 ^ 31 - 1) (fun u hu => by have := hb u (by omega); omega)) (by omega)
      rw [hn, le_nI (by omega) (by omega), if_neg (by omega), ld_nI (by omega) (by decide), hE t (by omega), lt1_eq, max_nI hm (hb t (by omega)), lt1_eq, k1, nI_add]
      exact ih (t + 1) k (by omega) (by omega)
  exact key n 0 fu (by omega) (fu_gt (by omega))
