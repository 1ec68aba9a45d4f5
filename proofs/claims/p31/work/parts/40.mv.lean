/-! a task at another place of its row -/
def mvp (P : PD) (t q u : Nat) : Nat := if u = t then q else if pm P u = pm P t then (if (if pp P u ≤ pp P t then pp P u else pp P u - 1) < q then (if pp P u ≤ pp P t then pp P u else pp P u - 1) else (if pp P u ≤ pp P t then pp P u else pp P u - 1) + 1) else pp P u
def mv (P : PD) (t q : Nat) : PD := (pn P, pm P, mvp P t q, pa P, pd P)
theorem mvp_t (P : PD) (t q : Nat) : mvp P t q t = q := if_pos rfl
theorem mvp_o {P : PD} {t q u : Nat} (h : pm P u ≠ pm P t) : mvp P t q u = pp P u := by
  unfold mvp
  rw [if_neg (fun e => h (by rw [e])), if_neg h]
theorem mvp_s {P : PD} {t q u : Nat} (h : u ≠ t) (hm : pm P u = pm P t) : mvp P t q u = if pp P u ≤ pp P t then (if pp P u < q then pp P u else pp P u + 1) else (if pp P u - 1 < q then pp P u - 1 else pp P u - 1 + 1) := by
  unfold mvp
  rw [if_neg h, if_pos hm]
  by_cases c : pp P u ≤ pp P t
  · rw [if_pos c, if_pos c]
  · rw [if_neg c, if_neg c]
theorem mvp_cases {P : PD} {t q u : Nat} (h : u ≠ t) (hm : pm P u = pm P t) (hne : pp P u ≠ pp P t) : (pp P u < pp P t ∧ pp P u < q ∧ mvp P t q u = pp P u) ∨ (pp P u < pp P t ∧ q ≤ pp P u ∧ mvp P t q u = pp P u + 1) ∨ (pp P t < pp P u ∧ pp P u ≤ q ∧ mvp P t q u + 1 = pp P u) ∨ (pp P t < pp P u ∧ q < pp P u ∧ mvp P t q u = pp P u) := by
  rw [mvp_s h hm]
  by_cases c : pp P u ≤ pp P t
  · rw [if_pos c]
    by_cases c2 : pp P u < q
    · rw [if_pos c2]; omega
    · rw [if_neg c2]; omega
  · rw [if_neg c]
    by_cases c2 : pp P u - 1 < q
    · rw [if_pos c2]; omega
    · rw [if_neg c2]; omega
theorem mv_pln {P : PD} (hP : Pln P) {t q : Nat} (ht : t < pn P) (hq : q < cn P (pm P t)) : Pln (mv P t q) := by
  obtain ⟨h1, h2, h3, h4⟩ := hP
  have hne : ∀ u, u < pn P → u ≠ t → pm P u = pm P t → pp P u ≠ pp P t := fun u hu c e q => c (h3 u t hu ht e q)
  have h5 := (h2 t ht).2.2.2.2
  refine ⟨h1, fun u hu => ?_, fun u v hu hv e1 e2 => ?_, fun m p hm hp => ?_⟩
  · obtain ⟨g1, g2, g3, g4, g5⟩ := h2 u hu
    refine ⟨g1, g2, g3, g4, ?_⟩
    show mvp P t q u < cn P (pm P u)
    by_cases c : u = t
    · subst c
      rw [mvp_t]; exact hq
    · by_cases c2 : pm P u = pm P t
      · have := hne u hu c c2
        rcases mvp_cases (q := q) c c2 this with ⟨_, _, e⟩ | ⟨_, _, e⟩ | ⟨_, _, e⟩ | ⟨_, _, e⟩ <;> rw [c2] at g5 ⊢ <;> omega
      · rw [mvp_o c2]; exact g5
  · have hu : u < pn P := hu
    have hv : v < pn P := hv
    have e1 : pm P u = pm P v := e1
    have e2 : mvp P t q u = mvp P t q v := e2
    by_cases c : u = t
    · by_cases c2 : v = t
      · omega
      · subst c
        rw [mvp_t] at e2
        rcases mvp_cases (P := P) (q := q) c2 e1.symm (hne v hv c2 e1.symm) with ⟨_, _, e⟩ | ⟨_, _, e⟩ | ⟨_, _, e⟩ | ⟨_, _, e⟩ <;> omega
    · by_cases c2 : v = t
      · subst c2
        rw [mvp_t] at e2
        rcases mvp_cases (P := P) (q := q) c e1 (hne u hu c e1) with ⟨_, _, e⟩ | ⟨_, _, e⟩ | ⟨_, _, e⟩ | ⟨_, _, e⟩ <;> omega
      · by_cases c3 : pm P u = pm P t
        · have c4 : pm P v = pm P t := by rw [← e1]; exact c3
          have : pp P u = pp P v := by
            have a1 := hne u hu c c3
            have a2 := hne v hv c2 c4
            rcases mvp_cases (q := q) c c3 a1 with ⟨_, _, e⟩ | ⟨_, _, e⟩ | ⟨_, _, e⟩ | ⟨_, _, e⟩ <;> rcases mvp_cases (q := q) c2 c4 a2 with ⟨_, _, e'⟩ | ⟨_, _, e'⟩ | ⟨_, _, e'⟩ | ⟨_, _, e'⟩ <;> omega
          exact h3 u v hu hv e1 this
        · rw [mvp_o c3, mvp_o (by rw [← e1]; exact c3)] at e2
          exact h3 u v hu hv e1 e2
  · have hp : p < cn P m := hp
    by_cases c : m = pm P t
    · subst c
      by_cases c2 : p = q
      · exact ⟨t, ht, rfl, by show mvp P t q t = p; rw [mvp_t, c2]⟩
      · obtain ⟨b, hb⟩ : ∃ b, b = (if p < q then p else p - 1) := ⟨_, rfl⟩
        obtain ⟨x, hx⟩ : ∃ x, x = (if b < pp P t then b else b + 1) := ⟨_, rfl⟩
        have hb2 : b + 1 < cn P (pm P t) ∧ (p < q → b = p) ∧ (q < p → b + 1 = p) := by
          rw [hb]
          split <;> omega
        have hx2 : x < cn P (pm P t) ∧ x ≠ pp P t ∧ (b < pp P t → x = b) ∧ (pp P t ≤ b → x = b + 1) := by
          rw [hx]
          split <;> omega
        obtain ⟨u, hu, e1, e2⟩ := h4 (pm P t) x hm hx2.1
        have hut : u ≠ t := fun e => by rw [e] at e2; omega
        refine ⟨u, hu, e1, ?_⟩
        show mvp P t q u = p
        rcases mvp_cases (q := q) hut e1 (by omega) with ⟨_, _, e⟩ | ⟨_, _, e⟩ | ⟨_, _, e⟩ | ⟨_, _, e⟩ <;> omega
    · obtain ⟨u, hu, e1, e2⟩ := h4 m p hm hp
      refine ⟨u, hu, e1, ?_⟩
      show mvp P t q u = p
      rw [mvp_o (by rw [e1]; exact c), e2]
/-- put at another place and back -/
theorem mv_back {P : PD} (hP : Pln P) {t q : Nat} (ht : t < pn P) (hq : q < cn P (pm P t)) : ∀ u, u < pn P → mvp (mv P t q) t (pp P t) u = pp P u := by
  intro u hu
  have h3 := hP.2.2.1
  by_cases c : u = t
  · subst c; rw [mvp_t]
  · by_cases c2 : pm P u = pm P t
    · have a1 : pp P u ≠ pp P t := fun e => c (h3 u t hu ht c2 e)
      have a2 : pp (mv P t q) u ≠ pp (mv P t q) t := fun e => c ((mv_pln hP ht hq).2.2.1 u t hu ht c2 e)
      have e1 : pp (mv P t q) u = mvp P t q u := rfl
      have e2 : pp (mv P t q) t = q := mvp_t P t q
      rcases mvp_cases (P := mv P t q) (q := pp P t) c c2 a2 with ⟨x1, x2, e⟩ | ⟨x1, x2, e⟩ | ⟨x1, x2, e⟩ | ⟨x1, x2, e⟩ <;> rcases mvp_cases (q := q) c c2 a1 with ⟨_, _, e'⟩ | ⟨_, _, e'⟩ | ⟨_, _, e'⟩ | ⟨_, _, e'⟩ <;> omega
    · rw [mvp_o (P := mv P t q) c2]
      show mvp P t q u = pp P u
      rw [mvp_o c2]
theorem ZPl_congr {z : Nat → Int32} {P P' : PD} (hn : pn P' = pn P) (h : ∀ t, t < pn P → pm P t = pm P' t ∧ pp P t = pp P' t ∧ pa P t = pa P' t ∧ pd P t = pd P' t) (hz : ZPl z P) : ZPl z P' := by
  refine ⟨by rw [hn]; exact hz.1, fun t ht => ?_⟩
  rw [hn] at ht
  obtain ⟨e1, e2, e3, e4⟩ := h t ht
  rw [← e1, ← e2, ← e3, ← e4]
  exact hz.2 t ht
theorem BPl_congr {B : Blk} {P P' : PD} (hn : pn P' = pn P) (h : ∀ t, t < pn P → pm P t = pm P' t ∧ pp P t = pp P' t ∧ pa P t = pa P' t ∧ pd P t = pd P' t) (hB : BPl B P) : BPl B P' := by
  have hc : ∀ m, cn P' m = cn P m := fun m => by
    unfold cn
    rw [hn]
    exact cnt_congr (fun t ht => (h t ht).1.symm)
  refine ⟨by rw [hn]; exact hB.1, fun t ht => ?_, fun m hm => by rw [hc]; exact hB.2.2.1 m hm, fun t ht => ?_⟩
  · rw [hn] at ht
    obtain ⟨e1, e2, e3, e4⟩ := h t ht
    rw [← e1, ← e3, ← e4]
    exact hB.2.1 t ht
  · rw [hn] at ht
    obtain ⟨e1, e2, e3, e4⟩ := h t ht
    rw [← e1, ← e2]
    exact hB.2.2.2 t ht
def shU (f : Nat → Int32) (a j : Nat) : Nat → Int32 := fun x => if a ≤ x ∧ x < j then f (x + 1) else f x
def shD (f : Nat → Int32) (a j : Nat) : Nat → Int32 := fun x => if j < x ∧ x ≤ a then f (x - 1) else f x
theorem nI_m1 (n : Nat) : nI (n + 1) + -1 = nI n := by
  rw [← Int32.sub_eq_add_neg]
  exact nI_pred n
theorem p_shift {B : Blk} {P : PD} (hP : Pln P) (hB : BPl B P) {t q : Nat} (ht : t < pn P) (hq : q < cn P (pm P t)) : ∃ B' : Blk, FX4_shift B (nI t) (nI q) = some B' ∧ (∀ o, o ≠ 8 → B' o = B o) ∧ BPl B' (mv P t q) := by
  have hn := hP.1
  have hm := (hP.2.1 t ht).1
  have hp := (hP.2.1 t ht).2.2.2.2
  have hc := cn_le hP (pm P t)
  have l82 : ∀ d j fuel (f : Nat → Int32), j ≤ pp P t → (j - q = d) → (q ≤ pp P t → q ≤ j) → (pp P t < q → j = pp P t) → d < fuel → FX4_shift_82 fuel (nI t) (nI q) (nI (pm P t * 24)) (nI j) (bc B 8 (shD f (pm P t * 24 + pp P t) (pm P t * 24 + j))) = some (bs (bc B 8 (shD f (pm P t * 24 + pp P t) (pm P t * 24 + min q (pp P t)))) 8 (pm P t * 24 + q) (nI t)) := by
    intro d
    induction d with
    | zero =>
      intro j fuel f hj hd h1 h2 hf
      obtain ⟨k, rfl⟩ : ∃ k, fuel = k + 1 := ⟨fuel - 1, by omega⟩
      show FX4_shift_82s _ _ _ _ _ _ = _
      unfold FX4_shift_82s
      rw [le_nI (by omega) (by omega), if_pos (by omega), nI_add, stb_nI (by omega) (by decide)]
      by_cases c : q ≤ pp P t
      · rw [Nat.min_eq_left c, show j = q by have := h1 c; omega]
      · rw [Nat.min_eq_right (by omega), h2 (by omega)]
    | succ d ih =>
      intro j fuel f hj hd h1 h2 hf
      obtain ⟨k, rfl⟩ : ∃ k, fuel = k + 1 := ⟨fuel - 1, by omega⟩
      obtain ⟨i, rfl⟩ : ∃ i, j = i + 1 := ⟨j - 1, by omega⟩
      show FX4_shift_82s _ _ _ _ _ _ = _
      unfold FX4_shift_82s
      rw [le_nI (by omega) (by omega), if_neg (by omega), nI_add, nI_sub1 (by omega), ld_nI (by omega) (by decide), stb_nI (by omega) (by decide), lt1_eq, nI_m1, bs_bc, bc_at]
      have e : upd (shD f (pm P t * 24 + pp P t) (pm P t * 24 + (i + 1))) (pm P t * 24 + (i + 1)) (shD f (pm P t * 24 + pp P t) (pm P t * 24 + (i + 1)) (pm P t * 24 + (i + 1) - 1)) = shD f (pm P t * 24 + pp P t) (pm P t * 24 + i) := by
        funext x
        unfold upd shD
        by_cases c : x = pm P t * 24 + (i + 1)
        · rw [if_pos c, if_neg (by omega), if_pos (by omega), c]
        · rw [if_neg c]
          by_cases c2 : pm P t * 24 + (i + 1) < x ∧ x ≤ pm P t * 24 + pp P t
          · rw [if_pos c2, if_pos (by omega)]
          · rw [if_neg c2, if_neg (by omega)]
      rw [e]
      exact ih i k f (by omega) (by omega) (fun c => by omega) (fun c => by omega) (by omega)
  have l46 : ∀ d j fuel, pp P t ≤ j → (q - j = d) → (pp P t ≤ q → j ≤ q) → (q < pp P t → j = pp P t) → d < fuel → FX4_shift_46 fuel (nI t) (nI q) (nI (pm P t * 24)) (nI (pp P t)) (nI j) (bc B 8 (shU (B 8) (pm P t * 24 + pp P t) (pm P t * 24 + j))) = FX4_shift_82 fu (nI t) (nI q) (nI (pm P t * 24)) (nI (pp P t)) (bc B 8 (shU (B 8) (pm P t * 24 + pp P t) (pm P t * 24 + max q (pp P t)))) := by
    intro d
    induction d with
    | zero =>
      intro j fuel hj hd h1 h2 hf
      obtain ⟨k, rfl⟩ : ∃ k, fuel = k + 1 := ⟨fuel - 1, by omega⟩
      show FX4_shift_46s _ _ _ _ _ _ _ = _
      unfold FX4_shift_46s
      rw [le_nI (by omega) (by omega), if_pos (by omega)]
      by_cases c : pp P t ≤ q
      · rw [Nat.max_eq_left c, show j = q by have := h1 c; omega]
      · rw [Nat.max_eq_right (by omega), h2 (by omega)]
    | succ d ih =>
      intro j fuel hj hd h1 h2 hf
      obtain ⟨k, rfl⟩ : ∃ k, fuel = k + 1 := ⟨fuel - 1, by omega⟩
      show FX4_shift_46s _ _ _ _ _ _ _ = _
      unfold FX4_shift_46s
      rw [le_nI (by omega) (by omega), if_neg (by omega), nI_add, k1, nI_add, ld_nI (by omega) (by decide), stb_nI (by omega) (by decide), lt1_eq, nI_add, bs_bc, bc_at]
      have e : upd (shU (B 8) (pm P t * 24 + pp P t) (pm P t * 24 + j)) (pm P t * 24 + j) (shU (B 8) (pm P t * 24 + pp P t) (pm P t * 24 + j) (pm P t * 24 + j + 1)) = shU (B 8) (pm P t * 24 + pp P t) (pm P t * 24 + (j + 1)) := by
        funext x
        unfold upd shU
        by_cases c : x = pm P t * 24 + j
        · rw [if_pos c, if_neg (by omega), if_pos (by omega), c]
        · rw [if_neg c]
          by_cases c2 : pm P t * 24 + pp P t ≤ x ∧ x < pm P t * 24 + j
          · rw [if_pos c2, if_pos (by omega)]
          · rw [if_neg c2, if_neg (by omega)]
      rw [e]
      exact ih (j + 1) k (by omega) (by omega) (fun c => by omega) (fun c => by omega) (by omega)
  have r46 := l46 (q - pp P t) (pp P t) fu (Nat.le_refl _) rfl (fun c => c) (fun c => rfl) (fu_gt (by omega))
  have r82 := l82 (pp P t - q) (pp P t) fu (shU (B 8) (pm P t * 24 + pp P t) (pm P t * 24 + max q (pp P t))) (Nat.le_refl _) rfl (fun c => c) (fun c => rfl) (fu_gt (by omega))
  have e0 : shU (B 8) (pm P t * 24 + pp P t) (pm P t * 24 + pp P t) = B 8 := by
    funext x
    unfold shU
    rw [if_neg (by omega)]
  have e1 : ∀ f : Nat → Int32, shD f (pm P t * 24 + pp P t) (pm P t * 24 + pp P t) = f := by
    intro f
    funext x
    unfold shD
    rw [if_neg (by omega)]
  rw [e0, bc_self] at r46
  rw [e1] at r82
  obtain ⟨F, hF⟩ : ∃ F, upd (shD (shU (B 8) (pm P t * 24 + pp P t) (pm P t * 24 + max q (pp P t))) (pm P t * 24 + pp P t) (pm P t * 24 + min q (pp P t))) (pm P t * 24 + q) (nI t) = F := ⟨_, rfl⟩
  refine ⟨bc B 8 F, ?_, fun o ho => bc_ne ho, ?_⟩
  · unfold FX4_shift
    obtain ⟨b1, -, -⟩ := hB.2.1 t ht
    rw [ld_nI (by omega) (by decide), b1, k24, pk_mul, lt1_eq, p_placeOf hP hB ht, c1_eq, if_neg (nneg (by omega)), if_neg (nneg (by omega)), ld_nI (by omega) (by decide), b1, ld_nI hm (by decide), hB.2.2.1 _ hm, lt_nI (by omega) (by omega), if_pos hq, r46, r82, bs_bc, hF]
  · obtain ⟨h1, h2, h3, h4⟩ := hB
    refine ⟨by rw [bc_ne (by omega)]; exact h1, fun u hu => by rw [bc_ne (by omega), bc_ne (by omega), bc_ne (by omega)]; exact h2 u hu, fun m hm => by rw [bc_ne (by omega)]; exact h3 m hm, fun u hu => ?_⟩
    have hu : u < pn P := hu
    show bc B 8 F 8 (24 * pm P u + mvp P t q u) = nI u
    rw [bc_at, ← hF, upd_eq]
    have hup := (hP.2.1 u hu).2.2.2.2
    have huc := cn_le hP (pm P u)
    by_cases c : u = t
    · subst c
      rw [mvp_t, if_pos (by omega)]
    · by_cases c2 : pm P u = pm P t
      · have a1 : pp P u ≠ pp P t := fun e => c (hP.2.2.1 u t hu ht c2 e)
        have hB8 := h4 u hu
        rw [c2] at hB8 hup ⊢
        have hx : ∀ x, x = 24 * pm P t + pp P u → B 8 x = nI u := fun x e => by rw [e]; exact hB8
        unfold shD shU
        rcases mvp_cases (q := q) c c2 a1 with ⟨y1, y2, e⟩ | ⟨y1, y2, e⟩ | ⟨y1, y2, e⟩ | ⟨y1, y2, e⟩
        · rw [if_neg (by omega), if_neg (by omega), if_neg (by omega)]
          exact hx _ (by omega)
        · rw [if_neg (by omega), if_pos (by omega), if_neg (by omega)]
          exact hx _ (by omega)
        · rw [if_neg (by omega), if_neg (by omega), if_pos (by omega)]
          exact hx _ (by omega)
        · rw [if_neg (by omega), if_neg (by omega), if_neg (by omega)]
          exact hx _ (by omega)
      · rw [mvp_o c2]
        have hm2 := (hP.2.1 u hu).1
        have hB8 := h4 u hu
        unfold shD shU
        rw [if_neg (by omega), if_neg (by omega), if_neg (by omega)]
        exact hB8
