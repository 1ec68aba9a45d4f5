/-! the model's reckon: what it finds -/
theorem q_isTask {Z : Blk} {n : Nat} (hz : Z 1 0 = nI n) (x : Int32) : (inT n x → FX6_isTask Z x = some 1) ∧ (¬ inT n x → FX6_isTask Z x = some 0) := by
  unfold FX6_isTask
  rw [k0, ld_nI (by decide) (by decide), hz, ← k0]
  by_cases h1 : x < 0
  · exact ⟨fun h => absurd h1 (inT_dec.mp h).1, fun _ => by rw [if_pos h1]⟩
  · by_cases h2 : nI n ≤ x
    · exact ⟨fun h => absurd h2 (inT_dec.mp h).2, fun _ => by rw [if_neg h1, if_pos h2]⟩
    · exact ⟨fun _ => by rw [if_neg h1, if_neg h2], fun h => absurd (inT_dec.mpr ⟨h1, h2⟩) h⟩
theorem k28 : (28 : Int32) = nI 28 := rfl
theorem k52 : (52 : Int32) = nI 52 := rfl
theorem k76 : (76 : Int32) = nI 76 := rfl
theorem k100 : (100 : Int32) = nI 100 := rfl
theorem k124 : (124 : Int32) = nI 124 := rfl
theorem k148 : (148 : Int32) = nI 148 := rfl
theorem k172 : (172 : Int32) = nI 172 := rfl
theorem k196 : (196 : Int32) = nI 196 := rfl
theorem k236 : (236 : Int32) = nI 236 := rfl
theorem k276 : (276 : Int32) = nI 276 := rfl
theorem k316 : (316 : Int32) = nI 316 := rfl
theorem k356 : (356 : Int32) = nI 356 := rfl
theorem q_taskAt {Z : Blk} {P : PD} (hP : Pln P) (hz : ZPl (Z 1) P) {m p : Nat} (hm : m < 4) (hp : p < 2 ^ 31) : FX6_taskAt Z (nI m) (nI p) = some (aI (ra P m p)) := by
  have hn := hP.1
  unfold FX6_taskAt
  have key : ∀ d t fuel, t + d = pn P → d < fuel → FX6_taskAt_6 Z fuel (nI m) (nI p) (aI (rowAt (pm P) (pp P) t m p)) (nI t) = some (aI (ra P m p)) := by
    intro d
    induction d with
    | zero =>
      intro t fuel ht hf
      obtain ⟨k, rfl⟩ : ∃ k, fuel = k + 1 := ⟨fuel - 1, by omega⟩
      have e : t = pn P := by omega
      subst e
      show FX6_taskAt_6s Z _ _ _ _ _ = _
      unfold FX6_taskAt_6s
      rw [k0, ld_nI (by decide) (by decide), hz.1, le_nI (by omega) (by omega), if_pos (Nat.le_refl _)]
      rfl
    | succ d ih =>
      intro t fuel ht hf
      obtain ⟨k, rfl⟩ : ∃ k, fuel = k + 1 := ⟨fuel - 1, by omega⟩
      have htn : t < pn P := by omega
      obtain ⟨z1, z2, z3, z4⟩ := hz.2 t htn
      obtain ⟨hm4, -, -, -, hpl⟩ := hP.2.1 t htn
      have hc := cn_le hP (pm P t)
      show FX6_taskAt_6s Z _ _ _ _ _ = _
      unfold FX6_taskAt_6s FX6_taskAt_50
      rw [k0, ld_nI (by decide) (by decide), hz.1, le_nI (by omega) (by omega), if_neg (by omega), k4, nI_add, ld_nI (by omega) (by decide), z1, eq_nI (by omega) (by omega)]
      have ih2 := ih (t + 1) k (by omega) (by omega)
      rw [rowAt] at ih2
      by_cases c1 : pm P t = m
      · rw [if_pos c1, k172, nI_add, ld_nI (by omega) (by decide), z3, eq_nI (by omega) hp]
        by_cases c2 : pp P t = p
        · rw [if_pos c2, lt1_eq, k1, nI_add]
          rw [if_pos ⟨c1, c2⟩, aI_lt (by omega)] at ih2
          exact ih2
        · rw [if_neg c2, lt1_eq, k1, nI_add]
          rw [if_neg (fun q => c2 q.2)] at ih2
          exact ih2
      · rw [if_neg c1, lt1_eq, k1, nI_add]
        rw [if_neg (fun q => c1 q.1)] at ih2
        exact ih2
  exact key (pn P) 0 fu (by omega) (fu_gt (by omega))
theorem q_taskAt_neg {Z : Blk} {P : PD} (hP : Pln P) (hz : ZPl (Z 1) P) {m : Nat} {y : Int32} (hm : m < 4) (hy : y < 0) : FX6_taskAt Z (nI m) y = some (-6) := by
  have hn := hP.1
  unfold FX6_taskAt
  have key : ∀ d t fuel, t + d = pn P → d < fuel → FX6_taskAt_6 Z fuel (nI m) y (-6) (nI t) = some (-6) := by
    intro d
    induction d with
    | zero =>
      intro t fuel ht hf
      obtain ⟨k, rfl⟩ : ∃ k, fuel = k + 1 := ⟨fuel - 1, by omega⟩
      have e : t = pn P := by omega
      subst e
      show FX6_taskAt_6s Z _ _ _ _ _ = _
      unfold FX6_taskAt_6s
      rw [k0, ld_nI (by decide) (by decide), hz.1, le_nI (by omega) (by omega), if_pos (Nat.le_refl _)]
    | succ d ih =>
      intro t fuel ht hf
      obtain ⟨k, rfl⟩ : ∃ k, fuel = k + 1 := ⟨fuel - 1, by omega⟩
      have htn : t < pn P := by omega
      obtain ⟨z1, z2, z3, z4⟩ := hz.2 t htn
      obtain ⟨hm4, -, -, -, hpl⟩ := hP.2.1 t htn
      have hc := cn_le hP (pm P t)
      show FX6_taskAt_6s Z _ _ _ _ _ = _
      unfold FX6_taskAt_6s FX6_taskAt_50
      rw [k0, ld_nI (by decide) (by decide), hz.1, le_nI (by omega) (by omega), if_neg (by omega), k4, nI_add, ld_nI (by omega) (by decide), z1, eq_nI (by omega) (by omega), k172, nI_add, ld_nI (by omega) (by decide), z3]
      have hne : ¬ nI (pp P t) = y := fun q => absurd (q ▸ hy) (nneg (by omega))
      rw [if_neg hne]
      have e : ∀ x : Option Int32, (if pm P t = m then x else x) = x := fun x => by split <;> rfl
      rw [e, lt1_eq, k1, nI_add]
      exact ih (t + 1) k (by omega) (by omega)
  exact key (pn P) 0 fu (by omega) (fu_gt (by omega))
theorem q_taskAt_pred {Z : Blk} {P : PD} (hP : Pln P) (hz : ZPl (Z 1) P) {m p : Nat} (hm : m < 4) (hp : p < 2 ^ 31) : FX6_taskAt Z (nI m) (nI p - (1 : Int32)) = some (aI (if p = 0 then 99 else ra P m (p - 1))) := by
  by_cases c : p = 0
  · subst c
    rw [if_pos rfl]
    exact q_taskAt_neg hP hz hm (by decide)
  · rw [if_neg c, nI_sub1 c]
    exact q_taskAt hP hz hm (by omega)
theorem q_manyOn {Z : Blk} {P : PD} (hP : Pln P) (hz : ZPl (Z 1) P) {m : Nat} (hm : m < 2 ^ 31) : FX6_manyOn Z (nI m) = some (nI (cn P m)) := by
  have hn := hP.1
  unfold FX6_manyOn
  have key : ∀ d t fuel, t + d = pn P → d < fuel → FX6_manyOn_4 Z fuel (nI m) (nI (cnt (pm P) t m)) (nI t) = some (nI (cn P m)) := by
    intro d
    induction d with
    | zero =>
      intro t fuel ht hf
      obtain ⟨k, rfl⟩ : ∃ k, fuel = k + 1 := ⟨fuel - 1, by omega⟩
      have e : t = pn P := by omega
      subst e
      show FX6_manyOn_4s Z _ _ _ _ = _
      unfold FX6_manyOn_4s
      rw [k0, ld_nI (by decide) (by decide), hz.1, le_nI (by omega) (by omega), if_pos (Nat.le_refl _)]
      rfl
    | succ d ih =>
      intro t fuel ht hf
      obtain ⟨k, rfl⟩ : ∃ k, fuel = k + 1 := ⟨fuel - 1, by omega⟩
      have htn : t < pn P := by omega
      obtain ⟨z1, z2, z3, z4⟩ := hz.2 t htn
      have hm4 := (hP.2.1 t htn).1
      show FX6_manyOn_4s Z _ _ _ _ = _
      unfold FX6_manyOn_4s FX6_manyOn_32
      have ih2 := ih (t + 1) k (by omega) (by omega)
      rw [cnt] at ih2
      rw [k0, ld_nI (by decide) (by decide), hz.1, le_nI (by omega) (by omega), if_neg (by omega), k4, nI_add, ld_nI (by omega) (by decide), z1, eq_nI (by omega) (by omega)]
      by_cases c1 : pm P t = m
      · rw [if_pos c1] at ih2 ⊢
        rw [lt1_eq, lt1_eq, k1, nI_add, nI_add]
        exact ih2
      · rw [if_neg c1] at ih2 ⊢
        rw [lt1_eq, lt1_eq, k1, nI_add, nI_add]
        exact ih2
  exact key (pn P) 0 fu (by omega) (fu_gt (by omega))
/-- what is held: no task, or one by some hours; the durations with it -/
def Held (Z : Blk) (P : PD) (dd : Nat → Nat) : Prop := ∀ t, t < pn P → ∃ h, (if nI t = Z 0 11 then Z 0 12 else 0) = nI h ∧ dd t = pd P t + h ∧ h ≤ 5000
theorem q_endOf {Z : Blk} {P : PD} {dd S : Nat → Nat} (hP : Pln P) (hz : ZPl (Z 1) P) (hh : Held Z P dd) {t : Nat} (ht : t < pn P) (hS : Z 7 t = nI (S t)) : FX6_endOf Z (nI t) = some (nI (S t + dd t)) := by
  have hn := hP.1
  obtain ⟨z1, z2, z3, z4⟩ := hz.2 t ht
  obtain ⟨h, h1, h2, h3⟩ := hh t ht
  unfold FX6_endOf
  rw [ld_nI (by omega) (by decide), k28, nI_add, ld_nI (by omega) (by decide), z2, hS, h2]
  by_cases c : nI t = Z 0 11
  · rw [if_pos c] at h1 ⊢
    rw [h1, nI_add, nI_add, Nat.add_assoc]
  · rw [if_neg c] at h1 ⊢
    rw [h1, nI_add, nI_add, Nat.add_assoc]
def RS (Z : Blk) (P : PD) (dd S : Nat → Nat) : Prop := ZPl (Z 1) P ∧ Held Z P dd ∧ ∀ t, t < pn P → Z 7 t = nI (S t) ∧ Z 8 t = nI (S t + dd t)
/-- what a task's start has to be -/
def gs (P : PD) (dd S : Nat → Nat) (t : Nat) : Nat := max (e0 (fun u => S u + dd u) (fr P t)) (e0 (fun u => S u + dd u) (pa P t))
theorem RS_frame {Z Z' : Blk} {P : PD} {dd S : Nat → Nat} (h0 : Z' 0 = Z 0) (h1 : Z' 1 = Z 1) (h7 : Z' 7 = Z 7) (h8 : Z' 8 = Z 8) (h : RS Z P dd S) : RS Z' P dd S := by
  unfold RS Held at h ⊢
  rw [h0, h1, h7, h8]
  exact h
theorem RS_e0 {Z : Blk} {P : PD} {dd S : Nat → Nat} (h : RS Z P dd S) {x : Nat} (hx : x < pn P ∨ x = 99) (hn : pn P ≤ 24) {α : Type} (K : Int32 → Option α) : (if aI x = (-6 : Int32) then K 0 else ld (Z 8) 24 (aI x) K) = K (nI (e0 (fun u => S u + dd u) x)) := by
  rcases hx with hx | rfl
  · rw [aI_lt (by omega), if_neg (m6_ne (by omega)), ld_nI (by omega) (by decide), (h.2.2 x hx).2]
    unfold e0
    rw [if_pos (by omega)]
  · rfl
theorem gs_le {P : PD} {dd S : Nat → Nat} {t b : Nat} (hP : Pln P) (ht : t < pn P) (h : ∀ u, u < pn P → S u + dd u ≤ b) : gs P dd S t ≤ b := by
  have hn := hP.1
  have e : ∀ x, x < pn P ∨ x = 99 → e0 (fun u => S u + dd u) x ≤ b := by
    rintro x (hx | rfl)
    · unfold e0; rw [if_pos (by omega)]; exact h x hx
    · exact Nat.zero_le _
  exact Nat.max_le.mpr ⟨e _ (fr_or hn t), e _ (pa_or hP ht)⟩
set_option maxRecDepth 100000 in
/-- one pass of the model over all tasks -/
theorem r_sweep {P : PD} {dd : Nat → Nat} (hP : Pln P) (k40 : Int32 → Int32 → Blk → Option (Int32 × Blk)) (l2 : Int32) {Z : Blk} {S : Nat → Nat} {b : Nat} (hb : b ≤ 10000000) (h : RS Z P dd S) (hS : ∀ u, u < pn P → S u + dd u ≤ b) :
    ∃ (Z' : Blk) (S' : Nat → Nat) (c : Nat), FX6_reckon_58 k40 fu (0 : Int32) l2 (0 : Int32) Z = k40 (nI c) (l2 + 1) Z' ∧ RS Z' P dd S' ∧ (∀ o, o ≠ 7 → o ≠ 8 → Z' o = Z o) ∧ (∀ u, u < pn P → S' u + dd u ≤ b + 24 * 5100) ∧ (c = 0 ∨ c = 1) ∧ (c = 0 → ∀ t, t < pn P → S' t = S t ∧ S' t = gs P dd S' t) ∧
      (∀ (T : Nat → Nat) (o : Nat → Nat) (r : Nat), Topo P o → (∀ t, t < pn P → T t = gs P dd T t) → (∀ i, i < pn P → i < r → S (o i) = T (o i)) → ∀ i, i < pn P → i < r + 1 → S' (o i) = T (o i)) ∧ ((∀ t, t < pn P → S t = gs P dd S t) → c = 0) := by
  have hn := hP.1
  have hdd : ∀ u, u < pn P → dd u ≤ 5100 := by
    intro u hu
    obtain ⟨w, -, w2, w3⟩ := h.2.1 u hu
    have := (hP.2.1 u hu).2.2.1
    omega
  have key : ∀ d t fuel (Z1 : Blk) (S1 : Nat → Nat) (c1 : Nat), t + d = pn P → d < fuel → RS Z1 P dd S1 → (∀ o, o ≠ 7 → o ≠ 8 → Z1 o = Z o) → (∀ u, u < pn P → S1 u + dd u ≤ b + t * 5100) → (c1 = 0 ∨ c1 = 1) → (c1 = 0 → (∀ u, u < pn P → S1 u = S u) ∧ ∀ u, u < t → S u = gs P dd S u) →
      (∀ (T : Nat → Nat) (o : Nat → Nat) (r : Nat), Topo P o → (∀ t, t < pn P → T t = gs P dd T t) → (∀ i, i < pn P → i < r → S (o i) = T (o i)) → (∀ i, i < pn P → i < r → S1 (o i) = T (o i)) ∧ ∀ i, i < pn P → i < r + 1 → o i < t → S1 (o i) = T (o i)) → ((∀ t, t < pn P → S t = gs P dd S t) → c1 = 0) →
      ∃ (Z' : Blk) (S' : Nat → Nat) (c : Nat), FX6_reckon_58 k40 fuel (nI c1) l2 (nI t) Z1 = k40 (nI c) (l2 + 1) Z' ∧ RS Z' P dd S' ∧ (∀ o, o ≠ 7 → o ≠ 8 → Z' o = Z o) ∧ (∀ u, u < pn P → S' u + dd u ≤ b + 24 * 5100) ∧ (c = 0 ∨ c = 1) ∧ (c = 0 → ∀ t, t < pn P → S' t = S t ∧ S' t = gs P dd S' t) ∧
        (∀ (T : Nat → Nat) (o : Nat → Nat) (r : Nat), Topo P o → (∀ t, t < pn P → T t = gs P dd T t) → (∀ i, i < pn P → i < r → S (o i) = T (o i)) → ∀ i, i < pn P → i < r + 1 → S' (o i) = T (o i)) ∧ ((∀ t, t < pn P → S t = gs P dd S t) → c = 0) := by
    intro d
    induction d with
    | zero =>
      intro t fuel Z1 S1 c1 ht hf hR hfr hbd hc1 hz0 hT hfx
      obtain ⟨k, rfl⟩ : ∃ k, fuel = k + 1 := ⟨fuel - 1, by omega⟩
      have e : t = pn P := by omega
      subst e
      refine ⟨Z1, S1, c1, ?_, hR, hfr, fun u hu => ?_, hc1, fun q u hu => ?_, fun T o r ho hTf hr i hi hir => (hT T o r ho hTf hr).2 i hi hir (ho.1 i hi), hfx⟩
      · show FX6_reckon_58s _ _ _ _ _ _ = _
        unfold FX6_reckon_58s
        rw [k0, ld_nI (by decide) (by decide), hR.1.1, le_nI (by omega) (by omega), if_pos (Nat.le_refl _), lt1_eq]
      · have := hbd u hu
        have : pn P * 5100 ≤ 24 * 5100 := Nat.mul_le_mul_right _ hn
        omega
      · obtain ⟨a1, a2⟩ := hz0 q
        refine ⟨a1 u hu, ?_⟩
        have e : ∀ x, x < pn P ∨ x = 99 → e0 (fun u => S1 u + dd u) x = e0 (fun u => S u + dd u) x := by
          rintro x (hx | rfl)
          · unfold e0; rw [if_pos (by omega), if_pos (by omega)]; show S1 x + dd x = S x + dd x; rw [a1 x hx]
          · rfl
        rw [a1 u hu, a2 u hu]
        unfold gs
        rw [e _ (fr_or hn u), e _ (pa_or hP hu)]
    | succ d ih =>
      intro t fuel Z1 S1 c1 ht hf hR hfr hbd hc1 hz0 hT hfx
      obtain ⟨k, rfl⟩ : ∃ k, fuel = k + 1 := ⟨fuel - 1, by omega⟩
      have htn : t < pn P := by omega
      obtain ⟨z1, z2, z3, z4⟩ := hR.1.2 t htn
      obtain ⟨hm4, -, -, -, hpl⟩ := hP.2.1 t htn
      have hc := cn_le hP (pm P t)
      have hbt : b + t * 5100 < 2 ^ 30 := by omega
      have hg := gs_le hP htn hbd
      have hgd : gs P dd S1 t = max (e0 (fun u => S1 u + dd u) (fr P t)) (e0 (fun u => S1 u + dd u) (pa P t)) := rfl
      obtain ⟨v, hv⟩ : ∃ v, gs P dd S1 t = v := ⟨_, rfl⟩
      rw [hv] at hg hgd
      have hx1 : e0 (fun u => S1 u + dd u) (fr P t) ≤ v := by rw [hgd]; exact Nat.le_max_left _ _
      have hx2 : e0 (fun u => S1 u + dd u) (pa P t) ≤ v := by rw [hgd]; exact Nat.le_max_right _ _
      -- the new state
      obtain ⟨Z2, hZ2⟩ : ∃ Z2, bs (bs Z1 7 t (nI v)) 8 t (nI (v + dd t)) = Z2 := ⟨_, rfl⟩
      have hR2 : RS Z2 P dd (u1 S1 t v) := by
        have f0 : Z2 0 = Z1 0 := by rw [← hZ2, bs_o (by omega), bs_o (by omega)]
        have f1 : Z2 1 = Z1 1 := by rw [← hZ2, bs_o (by omega), bs_o (by omega)]
        refine ⟨by rw [f1]; exact hR.1, by unfold Held; rw [f0]; exact hR.2.1, fun u hu => ?_⟩
        rw [← hZ2, bs_r, if_neg (by omega), bs_r, bs_r, bs_r, if_neg (c := 8 = 7 ∧ u = t) (by omega)]
        by_cases c : u = t
        · subst c
          rw [if_pos ⟨rfl, rfl⟩, if_pos ⟨rfl, rfl⟩, u1_at]
          exact ⟨rfl, rfl⟩
        · rw [if_neg (fun q => c q.2), if_neg (fun q => c q.2), u1_ne c]
          exact hR.2.2 u hu
      have hrun : ∀ c2 : Nat, (c2 = if v ≠ S1 t then 1 else c1) → FX6_reckon_58 k40 (k + 1) (nI c1) l2 (nI t) Z1 = FX6_reckon_58 k40 k (nI c2) l2 (nI (t + 1)) Z2 := by
        intro c2 hc2
        show FX6_reckon_58s _ _ _ _ _ _ = _
        unfold FX6_reckon_58s
        rw [k0, ld_nI (by decide) (by decide), hR.1.1, le_nI (by omega) (by omega), if_neg (by omega), k4, nI_add, ld_nI (by omega) (by decide), z1, k172, nI_add, ld_nI (by omega) (by decide), z3, q_taskAt_pred hP hR.1 hm4 (by omega), c1_eq, ← k0]
        change (if aI (fr P t) = (-6 : Int32) then FX6_reckon_112 k40 (FX6_reckon_58 k40 k) (nI c1) l2 (nI t) 0 Z1 else ld (Z1 8) 24 (aI (fr P t)) fun v26 => FX6_reckon_112 k40 (FX6_reckon_58 k40 k) (nI c1) l2 (nI t) v26 Z1) = _
        rw [RS_e0 hR (fr_or hn t) hn (fun v26 => FX6_reckon_112 k40 (FX6_reckon_58 k40 k) (nI c1) l2 (nI t) v26 Z1)]
        unfold FX6_reckon_112
        rw [k100, nI_add, ld_nI (by omega) (by decide), z4, ld_nI (by omega) (by decide), z4]
        rw [RS_e0 hR (pa_or hP htn) hn (fun v36 => FX6_reckon_146 k40 (FX6_reckon_58 k40 k) (nI c1) l2 (nI t) (nI (e0 (fun u => S1 u + dd u) (fr P t))) v36 Z1)]
        have h146 : ∀ a b' : Nat, a ≤ v → b' ≤ v → max a b' = v → FX6_reckon_146 k40 (FX6_reckon_58 k40 k) (nI c1) l2 (nI t) (nI a) (nI b') Z1 = FX6_reckon_162 k40 (FX6_reckon_58 k40 k) (nI c1) l2 (nI t) (nI v) Z1 := by
          intro a b' ha hb' hm
          unfold FX6_reckon_146
          first
            | (rw [le_nI (by omega) (by omega)]
               by_cases q : a ≤ b'
               · rw [if_pos q]; rw [show v = b' by omega]
               · rw [if_neg q]; rw [show v = a by omega])
            | (rw [le_nI (by omega) (by omega)]
               by_cases q : b' ≤ a
               · rw [if_pos q]; rw [show v = a by omega]
               · rw [if_neg q]; rw [show v = b' by omega])
        rw [h146 _ _ hx1 hx2 hgd.symm]
        have h184 : ∀ s0 : Int32, FX6_reckon_184 k40 (FX6_reckon_58 k40 k) l2 (nI t) (nI v) s0 Z1 = FX6_reckon_58 k40 k s0 l2 (nI (t + 1)) Z2 := by
          intro s0
          unfold FX6_reckon_184
          rw [stb_nI (by omega) (by decide)]
          have hq : FX6_endOf (bs Z1 7 t (nI v)) (nI t) = some (nI (v + dd t)) := by
            have f0 : bs Z1 7 t (nI v) 0 = Z1 0 := bs_o (by omega)
            have f1 : bs Z1 7 t (nI v) 1 = Z1 1 := bs_o (by omega)
            have := q_endOf (Z := bs Z1 7 t (nI v)) (S := fun _ => v) hP (by rw [f1]; exact hR.1) (dd := dd) (by unfold Held; rw [f0]; exact hR.2.1) htn (by rw [bs_r, if_pos ⟨rfl, rfl⟩])
            exact this
          rw [hq, c1_eq, stb_nI (by omega) (by decide), lt1_eq, k1, nI_add, hZ2]
        unfold FX6_reckon_162 FX6_reckon_179
        rw [h184, h184]
        by_cases cc : c1 = 0
        · subst cc
          rw [if_pos (show nI 0 = 0 from rfl), ld_nI (by omega) (by decide), (hR.2.2 t htn).1, eq_nI (by omega) (by have := hbd t htn; omega)]
          by_cases cv : v = S1 t
          · rw [if_pos cv, hc2, if_neg (fun q => q cv)]; rfl
          · rw [if_neg cv, hc2, if_pos cv]; rfl
        · have e1 : c1 = 1 := by omega
          subst e1
          rw [if_neg (show ¬ nI 1 = 0 by decide), hc2]
          by_cases cv : v = S1 t
          · rw [if_neg (fun q => q cv)]; rfl
          · rw [if_pos cv]; rfl
      obtain ⟨c2, hc2⟩ : ∃ c2, c2 = if v ≠ S1 t then 1 else c1 := ⟨_, rfl⟩
      rw [hrun c2 hc2]
      refine ih (t + 1) k Z2 (u1 S1 t v) c2 (by omega) (by omega) hR2 (fun o h7 h8 => by rw [← hZ2, bs_o h8, bs_o h7]; exact hfr o h7 h8) (fun u hu => ?_) (by by_cases cv : v = S1 t <;> simp [hc2, cv] <;> omega) (fun q => ?_) (fun T o r ho hTf hr => ?_) (fun q => ?_)
      · by_cases c : u = t
        · subst c
          rw [u1_at]
          have := hdd u hu
          rw [Nat.succ_mul]
          omega
        · rw [u1_ne c]
          have := hbd u hu
          rw [Nat.succ_mul]
          omega
      · have cv : v = S1 t := Classical.byContradiction fun w => by rw [if_pos w] at hc2; omega
        rw [if_neg (fun w => w cv)] at hc2
        obtain ⟨a1, a2⟩ := hz0 (by omega)
        have same : ∀ u, u < pn P → u1 S1 t v u = S u := by
          intro u hu
          by_cases c : u = t
          · subst c; rw [u1_at, cv]; exact a1 u hu
          · rw [u1_ne c]; exact a1 u hu
        refine ⟨same, fun u hu => ?_⟩
        rcases Nat.lt_or_ge u t with w | w
        · exact a2 u w
        · have e : u = t := by omega
          subst e
          have e : ∀ x, x < pn P ∨ x = 99 → e0 (fun u => S1 u + dd u) x = e0 (fun u => S u + dd u) x := by
            rintro x (hx | rfl)
            · unfold e0; rw [if_pos (by omega), if_pos (by omega)]; show S1 x + dd x = S x + dd x; rw [a1 x hx]
            · rfl
          rw [← a1 u htn, ← cv, ← hv]
          unfold gs
          rw [e _ (fr_or hn u), e _ (pa_or hP htn)]
      · obtain ⟨g1, g2⟩ := hT T o r ho hTf hr
        -- a task whose predecessors are right gets its right start
        have right : ∀ i, i < pn P → i < r + 1 → o i = t → v = T t := by
          intro i hi hir e
          obtain ⟨p1, p2⟩ := ho.2.2.2 i hi
          rw [e] at p1 p2
          rw [hTf t htn, ← hv]
          have ee : ∀ x, x < pn P ∨ x = 99 → (x < 24 → ∃ j, j < i ∧ o j = x) → e0 (fun u => S1 u + dd u) x = e0 (fun u => T u + dd u) x := by
            rintro x (hx | rfl) hj
            · obtain ⟨j, hj1, hj2⟩ := hj (by omega)
              unfold e0
              rw [if_pos (by omega), if_pos (by omega)]
              have := g1 j (by omega) (by omega)
              rw [hj2] at this
              show S1 x + dd x = T x + dd x
              rw [this]
            · rfl
          unfold gs
          rw [ee _ (fr_or hn t) p1, ee _ (pa_or hP htn) p2]
        refine ⟨fun i hi hir => ?_, fun i hi hir hlt => ?_⟩
        · by_cases c : o i = t
          · rw [c, u1_at]; exact right i hi (by omega) c
          · rw [u1_ne c]; exact g1 i hi hir
        · by_cases c : o i = t
          · rw [c, u1_at]; exact right i hi hir c
          · rw [u1_ne c]; exact g2 i hi hir (by omega)
      · have c0 := hfx q
        obtain ⟨a1, a2⟩ := hz0 c0
        have e : ∀ x, x < pn P ∨ x = 99 → e0 (fun u => S1 u + dd u) x = e0 (fun u => S u + dd u) x := by
          rintro x (hx | rfl)
          · unfold e0; rw [if_pos (by omega), if_pos (by omega)]; show S1 x + dd x = S x + dd x; rw [a1 x hx]
          · rfl
        have cv : v = S1 t := by
          rw [a1 t htn, q t htn, ← hv]
          unfold gs
          rw [e _ (fr_or hn t), e _ (pa_or hP htn)]
        rw [hc2, if_neg (fun w => w cv)]
        exact c0
  exact key (pn P) 0 fu Z S 0 (by omega) (fu_gt (by omega)) h (fun _ _ _ => rfl) (fun u hu => by have := hS u hu; omega) (Or.inl rfl) (fun _ => ⟨fun _ _ => rfl, fun u hu => by omega⟩) (fun T o r ho hTf hr => ⟨hr, fun i hi hir hlt => by omega⟩) (fun _ => rfl)
set_option maxRecDepth 100000 in
/-- reckon: where an order exists it finds the ends and says so; where nothing can be ranked it says no -/
theorem r_reckon {P : PD} {dd : Nat → Nat} (hP : Pln P) {Z : Blk} (hz : ZPl (Z 1) P) (hh : Held Z P dd) :
    ∃ Z' : Blk, (∀ o, o ≠ 7 → o ≠ 8 → Z' o = Z o) ∧ ((FX6_reckon Z = some (1, Z') ∧ ∃ S : Nat → Nat, (∀ t, t < pn P → S t = gs P dd S t) ∧ ∀ t, t < pn P → Z' 7 t = nI (S t) ∧ Z' 8 t = nI (S t + dd t)) ∨ (FX6_reckon Z = some (0, Z') ∧ ∀ (o T : Nat → Nat), Topo P o → (∀ t, t < pn P → T t = gs P dd T t) → False)) := by
  have hn := hP.1
  have hdd : ∀ u, u < pn P → dd u ≤ 5100 := by
    intro u hu
    obtain ⟨w, -, w2, w3⟩ := hh u hu
    have := (hP.2.1 u hu).2.2.1
    omega
  -- the first starts
  have key1 : ∀ d t fuel (Z1 : Blk), t + d = pn P → d < fuel → ZPl (Z1 1) P → Held Z1 P dd → (∀ u, u < t → Z1 7 u = nI 0 ∧ Z1 8 u = nI (0 + dd u)) → ∃ Z2 : Blk, FX6_reckon_4 fuel (1 : Int32) (nI t) Z1 = FX6_reckon_40 fu (1 : Int32) (0 : Int32) Z2 ∧ RS Z2 P dd (fun _ => 0) ∧ ∀ o, o ≠ 7 → o ≠ 8 → Z2 o = Z1 o := by
    intro d
    induction d with
    | zero =>
      intro t fuel Z1 ht hf h1 h2 h3
      obtain ⟨k, rfl⟩ : ∃ k, fuel = k + 1 := ⟨fuel - 1, by omega⟩
      have e : t = pn P := by omega
      subst e
      refine ⟨Z1, ?_, ⟨h1, h2, h3⟩, fun _ _ _ => rfl⟩
      show FX6_reckon_4s _ _ _ _ = _
      unfold FX6_reckon_4s
      rw [k0, ld_nI (by decide) (by decide), h1.1, le_nI (by omega) (by omega), if_pos (Nat.le_refl _)]
    | succ d ih =>
      intro t fuel Z1 ht hf h1 h2 h3
      obtain ⟨k, rfl⟩ : ∃ k, fuel = k + 1 := ⟨fuel - 1, by omega⟩
      have htn : t < pn P := by omega
      have f0 : bs Z1 7 t (nI 0) 0 = Z1 0 := bs_o (by omega)
      have f1 : bs Z1 7 t (nI 0) 1 = Z1 1 := bs_o (by omega)
      have hq : FX6_endOf (bs Z1 7 t (nI 0)) (nI t) = some (nI (0 + dd t)) := q_endOf (S := fun _ => 0) hP (by rw [f1]; exact h1) (by unfold Held; rw [f0]; exact h2) htn (by rw [bs_r, if_pos ⟨rfl, rfl⟩])
      obtain ⟨Z2, g1, g2, g3⟩ := ih (t + 1) k (bs (bs Z1 7 t (nI 0)) 8 t (nI (0 + dd t))) (by omega) (by omega) (by rw [bs_o (by omega), f1]; exact h1) (by unfold Held; rw [bs_o (by omega), f0]; exact h2) (fun u hu => by
        rw [bs_r, if_neg (by omega), bs_r, bs_r, bs_r, if_neg (c := 8 = 7 ∧ u = t) (by omega)]
        by_cases c : u = t
        · subst c
          rw [if_pos ⟨rfl, rfl⟩, if_pos ⟨rfl, rfl⟩]
          exact ⟨rfl, rfl⟩
        · rw [if_neg (fun q => c q.2), if_neg (fun q => c q.2)]
          exact h3 u (by omega))
      refine ⟨Z2, ?_, g2, fun o h7 h8 => by rw [g3 o h7 h8, bs_o h8, bs_o h7]⟩
      show FX6_reckon_4s _ _ _ _ = _
      unfold FX6_reckon_4s
      rw [k0, ld_nI (by decide) (by decide), h1.1, le_nI (by omega) (by omega), if_neg (by omega), stb_nI (by omega) (by decide), hq, c1_eq, stb_nI (by omega) (by decide), lt1_eq, k1, nI_add]
      exact g1
  -- the rounds
  have key2 : ∀ d r fuel (Z1 : Blk) (S : Nat → Nat) (c : Nat), r + d = pn P + 1 → d < fuel → RS Z1 P dd S → (∀ o, o ≠ 7 → o ≠ 8 → Z1 o = Z o) → (∀ u, u < pn P → S u + dd u ≤ 5100 + r * (24 * 5100)) → (c = 0 ∨ c = 1) → (c = 0 → ∀ t, t < pn P → S t = gs P dd S t) → (∀ (o T : Nat → Nat), Topo P o → (∀ t, t < pn P → T t = gs P dd T t) → (∀ i, i < pn P → i < r → S (o i) = T (o i)) ∧ (r = pn P + 1 → c = 0)) →
      ∃ (Z' : Blk) (S' : Nat → Nat) (c' : Nat), FX6_reckon_40 fuel (nI c) (nI r) Z1 = FX6_reckon_216 (nI c') Z' ∧ RS Z' P dd S' ∧ (∀ o, o ≠ 7 → o ≠ 8 → Z' o = Z o) ∧ (c' = 0 ∨ c' = 1) ∧ (c' = 0 → ∀ t, t < pn P → S' t = gs P dd S' t) ∧ (∀ (o T : Nat → Nat), Topo P o → (∀ t, t < pn P → T t = gs P dd T t) → c' = 0) := by
    intro d
    induction d with
    | zero =>
      intro r fuel Z1 S c hr hf hR hfr hbd hc h0 hT
      obtain ⟨k, rfl⟩ : ∃ k, fuel = k + 1 := ⟨fuel - 1, by omega⟩
      refine ⟨Z1, S, c, ?_, hR, hfr, hc, h0, fun o T ho hTf => (hT o T ho hTf).2 (by omega)⟩
      show FX6_reckon_40s _ _ _ _ = _
      unfold FX6_reckon_40s
      rw [k0, ld_nI (by decide) (by decide), hR.1.1, lt_nI (by omega) (by omega), if_pos (by omega)]
    | succ d ih =>
      intro r fuel Z1 S c hr hf hR hfr hbd hc h0 hT
      obtain ⟨k, rfl⟩ : ∃ k, fuel = k + 1 := ⟨fuel - 1, by omega⟩
      show ∃ (Z' : Blk) (S' : Nat → Nat) (c' : Nat), FX6_reckon_40s _ _ _ _ = _ ∧ _
      unfold FX6_reckon_40s
      rw [k0, ld_nI (by decide) (by decide), hR.1.1, lt_nI (by omega) (by omega), if_neg (by omega)]
      by_cases cc : c = 0
      · subst cc
        rw [if_pos rfl]
        exact ⟨Z1, S, 0, rfl, hR, hfr, Or.inl rfl, h0, fun _ _ _ _ => rfl⟩
      · have e1 : c = 1 := by omega
        subst e1
        rw [if_neg (show ¬ nI 1 = nI 0 by decide)]
        have hrb : r * (24 * 5100) ≤ 25 * (24 * 5100) := Nat.mul_le_mul_right _ (by omega)
        obtain ⟨Z2, S2, c2, g1, g2, g3, g4, g5, g6, g7, g8⟩ := r_sweep hP (FX6_reckon_40 k) (nI r) (by omega) hR hbd
        rw [← k0, g1, k1, nI_add]
        refine ih (r + 1) k Z2 S2 c2 (by omega) (by omega) g2 (fun o h7 h8 => by rw [g3 o h7 h8, hfr o h7 h8]) (fun u hu => by rw [Nat.succ_mul, ← Nat.add_assoc]; exact g4 u hu) g5 (fun q t ht => (g6 q t ht).2) (fun o T ho hTf => ?_)
        have hpre := (hT o T ho hTf).1
        refine ⟨fun i hi hir => g7 T o r ho hTf hpre i hi (by omega), fun q => g8 (fun t ht => ?_)⟩
        -- all are right already: nothing changes
        have all : ∀ t, t < pn P → S t = T t := by
          intro t ht
          obtain ⟨i, hi, e⟩ := ho.2.1 t ht
          rw [← e]
          exact hpre i hi (by omega)
        have ee : ∀ x, x < pn P ∨ x = 99 → e0 (fun u => S u + dd u) x = e0 (fun u => T u + dd u) x := by
          rintro x (hx | rfl)
          · unfold e0; rw [if_pos (by omega), if_pos (by omega)]; show S x + dd x = T x + dd x; rw [all x hx]
          · rfl
        rw [all t ht, hTf t ht]
        unfold gs
        rw [ee _ (fr_or hn t), ee _ (pa_or hP ht)]
  obtain ⟨Z2, g1, g2, g3⟩ := key1 (pn P) 0 fu Z (by omega) (fu_gt (by omega)) hz hh (fun u hu => by omega)
  obtain ⟨Z3, S3, c3, f1, f2, f3, f4, f5, f6⟩ := key2 (pn P + 1) 0 fu Z2 (fun _ => 0) 1 (by omega) (fu_gt (by omega)) g2 g3 (fun u hu => by have := hdd u hu; show 0 + dd u ≤ _; omega) (Or.inr rfl) (fun q => by omega) (fun o T _ _ => ⟨fun i hi hir => by omega, fun q => by omega⟩)
  refine ⟨Z3, f3, ?_⟩
  have hrun : FX6_reckon Z = FX6_reckon_216 (nI c3) Z3 := by
    unfold FX6_reckon
    exact g1.trans f1
  unfold FX6_reckon_216 at hrun
  rcases f4 with e | e
  · subst e
    rw [if_pos (show nI 0 = 0 from rfl)] at hrun
    exact Or.inl ⟨hrun, S3, f5 rfl, f2.2.2⟩
  · subst e
    rw [if_neg (show ¬ nI 1 = 0 by decide)] at hrun
    exact Or.inr ⟨hrun, fun o T ho hTf => by have := f6 o T ho hTf; omega⟩
