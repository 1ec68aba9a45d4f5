/-! changes and undo: what was prepared stands in the ring -/
theorem ring_ix {f k : Nat} (hf : f < 7) (hk : k ≤ 7) : (nI f + nI k) - (nI f + nI k) / 7 * 7 = nI ((f + k) % 7) := by
  rw [nI_add, show (7 : Int32) = nI 7 from rfl, pk_rem (by omega) (by omega) (by omega)]
theorem p_prepare {M : Mem} {f k : Nat} (hf : f < 7) (hk : k ≤ 6) (h1 : M 11 3 1 = nI f) (h2 : M 11 3 2 = nI k) : ∃ B4 : Blk, FX1_prepare M = some (jb M (4 + (f + k) % 7) B4) ∧ EqB B4 (M 0) := by
  obtain ⟨B4, b1, b2⟩ := p_copyFrom (M (4 + (f + k) % 7)) (M 0)
  refine ⟨B4, ?_, b2⟩
  have hm : (f + k) % 7 < 7 := Nat.mod_lt _ (by omega)
  unfold FX1_prepare
  rw [h1, h2, ring_ix hf (by omega), gi_nI hm (by decide), nI_clamp (by omega), b1, c1_eq, lt1_eq]
def HK (M : Mem) (f k : Nat) : Prop := f < 7 ∧ k ≤ 6 ∧ M 11 3 1 = nI f ∧ M 11 3 2 = nI k
def HS (M : Mem) : Prop := ∃ f k, HK M f k
/-- what undo would bring back -/
def Und (M : Mem) (B : Blk) : Prop := ∃ f k, HK M f k ∧ 1 ≤ k ∧ EqB (M (4 + (f + (k - 1)) % 7)) B
theorem ch_step {M : Mem} (hS : HS M) {fc : Blk → Option (Int32 × Blk)} {r : Int32} {B' : Blk} (hx : fc (M 0) = some (r, B')) : ∃ M' : Mem, (c1 (FX1_prepare M) fun M3 => c2 (fc (M3 0)) fun r4 B6 => lt1 (jb M3 0 B6) fun M7 => c2 (FX1_record M7 r4) fun r9 M11 => some (r9, M11)) = some (r, M') ∧ M' 0 = B' ∧ M' 12 = M 12 ∧ HS M' ∧ (0 ≤ r → Und M' (M 0)) := by
  obtain ⟨f, k, hf, hk, h1, h2⟩ := hS
  obtain ⟨B4, p1, p2⟩ := p_prepare hf hk h1 h2
  have hm : (f + k) % 7 < 7 := Nat.mod_lt _ (by omega)
  obtain ⟨M7, hM7⟩ : ∃ M7, jb (jb M (4 + (f + k) % 7) B4) 0 B' = M7 := ⟨_, rfl⟩
  have m11 : M7 11 = M 11 := by rw [← hM7, jb_ne (by omega), jb_ne (by omega)]
  have m12 : M7 12 = M 12 := by rw [← hM7, jb_ne (by omega), jb_ne (by omega)]
  have m0 : M7 0 = B' := by rw [← hM7, jb_at]
  have mr : M7 (4 + (f + k) % 7) = B4 := by rw [← hM7, jb_ne (by omega), jb_at]
  rw [p1, c1_eq, jb_ne (by omega), hx, c2_eq, lt1_eq, hM7]
  unfold FX1_record
  rw [m11, h1, h2]
  by_cases c : 0 ≤ r
  · rw [if_pos c, show (6 : Int32) = nI 6 from rfl, le_nI (by decide) (by omega)]
    by_cases c6 : 6 ≤ k
    · have ek : k = 6 := by omega
      subst ek
      rw [if_pos c6, lt1_eq, c2_eq, k1, show (nI f + nI 1) - (nI f + nI 1) / (7 : Int32) * (7 : Int32) = nI ((f + 1) % 7) from ring_ix hf (by omega)]
      have hf1 : (f + 1) % 7 < 7 := Nat.mod_lt _ (by omega)
      have hk' : HK (jb M7 11 (bs (M 11) 3 1 (nI ((f + 1) % 7)))) ((f + 1) % 7) 6 := ⟨hf1, by omega, by rw [jb_at, bs_kk], by rw [jb_at, bs_kn (by omega)]; exact h2⟩
      refine ⟨_, rfl, by rw [jb_ne (by omega)]; exact m0, by rw [jb_ne (by omega)]; exact m12, ⟨_, _, hk'⟩, fun _ => ⟨_, _, hk', by omega, ?_⟩⟩
      have e : ((f + 1) % 7 + (6 - 1)) % 7 = (f + 6) % 7 := by omega
      rw [e, jb_ne (by omega), mr]
      exact p2
    · rw [if_neg c6, lt1_eq, c2_eq, k1, nI_add]
      have hk' : HK (jb M7 11 (bs (M 11) 3 2 (nI (k + 1)))) f (k + 1) := ⟨hf, by omega, by rw [jb_at, bs_kn (by omega)]; exact h1, by rw [jb_at, bs_kk]⟩
      refine ⟨_, rfl, by rw [jb_ne (by omega)]; exact m0, by rw [jb_ne (by omega)]; exact m12, ⟨_, _, hk'⟩, fun _ => ⟨_, _, hk', by omega, ?_⟩⟩
      rw [Nat.add_sub_cancel, jb_ne (by omega), mr]
      exact p2
  · rw [if_neg c, c2_eq]
    exact ⟨M7, rfl, m0, m12, ⟨f, k, hf, hk, by rw [m11]; exact h1, by rw [m11]; exact h2⟩, fun q => absurd q c⟩
theorem l_undo {M : Mem} {B : Blk} (h : Und M B) : ∃ (M' : Mem) (k : Nat), k ≤ 5 ∧ FX5_undo M = some (nI k, M') ∧ EqB (M' 0) B ∧ HS M' ∧ M' 12 = M 12 := by
  obtain ⟨f, k, ⟨hf, hk, f1, f2⟩, hk1, he⟩ := h
  have hm : (f + (k - 1)) % 7 < 7 := Nat.mod_lt _ (by omega)
  obtain ⟨B', b1, b2⟩ := p_copyFrom (M 0) (M (4 + (f + (k - 1)) % 7))
  obtain ⟨M2, hM2⟩ : ∃ M2, jb (jb M 11 (bs (M 11) 3 2 (nI (k - 1)))) 0 B' = M2 := ⟨_, rfl⟩
  have m11 : M2 11 = bs (M 11) 3 2 (nI (k - 1)) := by rw [← hM2, jb_ne (by omega), jb_at]
  refine ⟨M2, k - 1, by omega, ?_, ?_, ⟨f, k - 1, hf, by omega, by rw [m11, bs_kn (by omega)]; exact f1, by rw [m11, bs_kk]⟩, by rw [← hM2, jb_ne (by omega), jb_ne (by omega)]⟩
  · unfold FX5_undo FX1_takeBack
    rw [f2, if_nI0 (by omega), if_neg (by omega), nI_sub1 (by omega), lt1_eq, jb_at, bs_kn (by omega), f1, bs_kk, ring_ix hf (by omega), gi_nI hm (by decide), nI_clamp (by omega), jb_ne (show (0 : Nat) ≠ 11 by omega), jb_ne (show 4 + (f + (k - 1)) % 7 ≠ 11 by omega), b1, c1_eq, lt1_eq, hM2, m11, bs_kk, c2_eq]
  · rw [← hM2, jb_at]
    exact fun o q hl => (b2 o q hl).trans (he o q hl)
