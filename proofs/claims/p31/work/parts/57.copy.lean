/-! copies of a market, of the class and of the model -/
def lim (o k : Nat) : Prop := (o = 0 ∧ (k = 2 ∨ k = 3)) ∨ (o = 1 ∧ k = 0) ∨ (o = 2 ∧ k = 0) ∨ (3 ≤ o ∧ o ≤ 7 ∧ k < 24) ∨ (o = 8 ∧ k < 96) ∨ (o = 9 ∧ k < 4) ∨ (12 ≤ o ∧ o ≤ 15 ∧ k < 40) ∨ (16 ≤ o ∧ o ≤ 19 ∧ k < 24)
def EqB (B B' : Blk) : Prop := ∀ o k, lim o k → B o k = B' o k
theorem EqB.refl (B : Blk) : EqB B B := fun _ _ _ => rfl
theorem cpy_lt {f g : Nat → Int32} {n k : Nat} (h : k < n) : va_cpy f g 0 0 n k = f k := by
  unfold va_cpy
  rw [if_pos (by omega), Nat.zero_add, Nat.sub_zero]
theorem p_copyFrom (B Bo : Blk) : ∃ B' : Blk, FX2_copyFrom B Bo = some B' ∧ EqB B' Bo := by
  unfold FX2_copyFrom FX4_copyFrom FX0_copyFrom
  simp only [lt1_eq, c1_eq]
  refine ⟨_, rfl, fun o k h => ?_⟩
  have bcr : ∀ (B : Blk) (q : Nat) (f : Nat → Int32) (n : Nat), o ≠ q → bc B q f o k = B o k := fun B q f n h => by rw [bc_ne h]
  unfold lim at h
  have ho : o < 20 := by omega
  have split : o = 0 ∨ o = 1 ∨ o = 2 ∨ o = 3 ∨ o = 4 ∨ o = 5 ∨ o = 6 ∨ o = 7 ∨ o = 8 ∨ o = 9 ∨ o = 12 ∨ o = 13 ∨ o = 14 ∨ o = 15 ∨ o = 16 ∨ o = 17 ∨ o = 18 ∨ o = 19 := by omega
  rcases split with rfl | rfl | rfl | rfl | rfl | rfl | rfl | rfl | rfl | rfl | rfl | rfl | rfl | rfl | rfl | rfl | rfl | rfl
  · rw [bc_ne (by omega), bc_ne (by omega), bc_ne (by omega), bc_ne (by omega)]
    have hk : k = 2 ∨ k = 3 := by omega
    rcases hk with rfl | rfl
    · rw [bs_kn (by omega), bs_kk]
    · rw [bs_kk]
  all_goals (repeat (first | rw [bc_ne (by omega)] | rw [bs_o (by omega)]))
  all_goals first
    | (rw [bc_at, cpy_lt (by omega)])
    | (have hk : k = 0 := by omega
       subst hk
       rw [bs_kk])
theorem RelP.eqb {B B' : Blk} {z : Nat → Int32} {P : PD} {E o : Nat → Nat} (h : RelP B z P E o) (e : EqB B' B) : RelP B' z P E o := by
  have hn := h.n
  have hP := h.1
  obtain ⟨h1, h2, ⟨b1, b2, b3, b4⟩, h4, h5, h6, h7, ⟨⟨a1, a2, a3, a4⟩, c1, c2, c3, c4, k, k1, k2, k3, k4⟩⟩ := h
  refine ⟨h1, h2, ⟨?_, fun t ht => ?_, fun m hm => ?_, fun t ht => ?_⟩, h4, h5, fun t ht => ?_, fun i hi => ?_, ⟨⟨?_, ?_, a3, a4⟩, fun t ht => ?_, c2, c3, c4, k, k1, ?_, k3, fun c hc => ?_⟩⟩
  · rw [e 1 0 (by unfold lim; omega)]; exact b1
  · rw [e 3 t (by unfold lim; omega), e 4 t (by unfold lim; omega), e 5 t (by unfold lim; omega)]; exact b2 t ht
  · rw [e 9 m (by unfold lim; omega)]; exact b3 m hm
  · have g := hP.2.1 t ht
    have gc := cn_le hP (pm P t)
    rw [e 8 _ (by unfold lim; omega)]; exact b4 t ht
  · rw [e 6 t (by unfold lim; omega)]; exact h6 t ht
  · rw [e 7 i (by unfold lim; omega)]; exact h7 i hi
  · rw [e 0 2 (by unfold lim; omega)]; exact a1
  · rw [e 0 3 (by unfold lim; omega)]; exact a2
  · rw [e 16 t (by unfold lim; omega), e 17 t (by unfold lim; omega), e 18 t (by unfold lim; omega), e 19 t (by unfold lim; omega)]; exact c1 t ht
  · rw [e 2 0 (by unfold lim; omega)]; exact k2
  · rw [e 12 c (by unfold lim; omega), e 13 c (by unfold lim; omega), e 14 c (by unfold lim; omega), e 15 c (by unfold lim; omega)]; exact k4 c hc
theorem Rel.eqb {B B' : Blk} {z : Nat → Int32} (h : Rel B z) (e : EqB B' B) : Rel B' z := by
  obtain ⟨P, E, o, h⟩ := h
  exact ⟨P, E, o, h.eqb e⟩
theorem RelP.eqz {B : Blk} {z z' : Nat → Int32} {P : PD} {E o : Nat → Nat} (h : RelP B z P E o) (e : ∀ k, k < 356 → z' k = z k) : RelP B z' P E o := by
  have hn := h.n
  refine RelP_rest h (fun _ _ => rfl) (fun k hk => e k (by omega)) ?_
  exact Rest_frame h.2.2.2.2.2.2.2 rfl rfl rfl (fun _ _ _ => rfl) (e 1 (by omega)) (e 2 (by omega)) (e 3 (by omega)) (fun k hk => e k (by omega)) hn
theorem Rel.eqz {B : Blk} {z z' : Nat → Int32} (h : Rel B z) (e : ∀ k, k < 356 → z' k = z k) : Rel B z' := by
  obtain ⟨P, E, o, h⟩ := h
  exact ⟨P, E, o, h.eqz e⟩
/-- loops that copy 356 numbers -/
def cpz (f g : Nat → Int32) (a i : Nat) : Nat → Int32 := fun x => if a ≤ x ∧ x < a + i then g (x - a) else f x
theorem cpz_0 (f g : Nat → Int32) (a : Nat) : cpz f g a 0 = f := by
  funext x
  unfold cpz
  rw [if_neg (by omega)]
theorem cpz_s (f g : Nat → Int32) (a i : Nat) : upd (cpz f g a i) (a + i) (g i) = cpz f g a (i + 1) := by
  funext x
  rw [upd_eq]
  unfold cpz
  by_cases c : x = a + i
  · rw [if_pos c, if_pos (by omega), c, show a + i - a = i by omega]
  · rw [if_neg c]
    by_cases c2 : a ≤ x ∧ x < a + i
    · rw [if_pos c2, if_pos (by omega)]
    · rw [if_neg c2, if_neg (by omega)]
theorem cpz_in {f g : Nat → Int32} {a i x : Nat} (h : x < i) : cpz f g a i (a + x) = g x := by
  unfold cpz
  rw [if_pos (by omega), show a + x - a = x by omega]
theorem cpz_out {f g : Nat → Int32} {a i x : Nat} (h : x < a ∨ a + i ≤ x) : cpz f g a i x = f x := by
  unfold cpz
  rw [if_neg (by omega)]
theorem q_putAside (Z : Blk) : FX6_putAside Z = some (bc Z 5 (cpz (Z 5) (Z 1) 0 356)) := by
  have key : ∀ d i fuel, i + d = 356 → d < fuel → FX6_putAside_2 fuel (nI i) (bc Z 5 (cpz (Z 5) (Z 1) 0 i)) = some (bc Z 5 (cpz (Z 5) (Z 1) 0 356)) := by
    intro d
    induction d with
    | zero =>
      intro i fuel hi hf
      obtain ⟨k, rfl⟩ : ∃ k, fuel = k + 1 := ⟨fuel - 1, by omega⟩
      have e : i = 356 := by omega
      subst e
      show FX6_putAside_2s _ _ _ = _
      unfold FX6_putAside_2s
      rw [k356, le_nI (by omega) (by omega), if_pos (by omega)]
    | succ d ih =>
      intro i fuel hi hf
      obtain ⟨k, rfl⟩ : ∃ k, fuel = k + 1 := ⟨fuel - 1, by omega⟩
      show FX6_putAside_2s _ _ _ = _
      unfold FX6_putAside_2s
      have := cpz_s (Z 5) (Z 1) 0 i
      rw [Nat.zero_add] at this
      rw [k356, le_nI (by omega) (by omega), if_neg (by omega), bc_ne (o' := 1) (by omega), ld_nI (by omega) (by decide), stb_nI (by omega) (by decide), lt1_eq, nI_1, bs_bc, this]
      exact ih (i + 1) k (by omega) (by omega)
  have := key 356 0 fu (by omega) (fu_gt (by omega))
  rw [cpz_0, bc_self] at this
  exact this
theorem q_bringBack (Z : Blk) : FX6_bringBack Z = some (bc Z 1 (cpz (Z 1) (Z 5) 0 356)) := by
  have key : ∀ d i fuel, i + d = 356 → d < fuel → FX6_bringBack_2 fuel (nI i) (bc Z 1 (cpz (Z 1) (Z 5) 0 i)) = some (bc Z 1 (cpz (Z 1) (Z 5) 0 356)) := by
    intro d
    induction d with
    | zero =>
      intro i fuel hi hf
      obtain ⟨k, rfl⟩ : ∃ k, fuel = k + 1 := ⟨fuel - 1, by omega⟩
      have e : i = 356 := by omega
      subst e
      show FX6_bringBack_2s _ _ _ = _
      unfold FX6_bringBack_2s
      rw [k356, le_nI (by omega) (by omega), if_pos (by omega)]
    | succ d ih =>
      intro i fuel hi hf
      obtain ⟨k, rfl⟩ : ∃ k, fuel = k + 1 := ⟨fuel - 1, by omega⟩
      show FX6_bringBack_2s _ _ _ = _
      unfold FX6_bringBack_2s
      have := cpz_s (Z 1) (Z 5) 0 i
      rw [Nat.zero_add] at this
      rw [k356, le_nI (by omega) (by omega), if_neg (by omega), bc_ne (o' := 5) (by omega), ld_nI (by omega) (by decide), stb_nI (by omega) (by decide), lt1_eq, nI_1, bs_bc, this]
      exact ih (i + 1) k (by omega) (by omega)
  have := key 356 0 fu (by omega) (fu_gt (by omega))
  rw [cpz_0, bc_self] at this
  exact this
/-- what is brought back is what was put aside -/
theorem back_eq {Z Z' : Blk} (h : Z' 5 = cpz (Z 5) (Z 1) 0 356) : ∀ k, k < 356 → cpz (Z' 1) (Z' 5) 0 356 k = Z 1 k := by
  intro k hk
  have a := cpz_in (f := Z' 1) (g := Z' 5) (a := 0) hk
  have b := cpz_in (f := Z 5) (g := Z 1) (a := 0) hk
  rw [Nat.zero_add] at a b
  rw [a, h, b]
