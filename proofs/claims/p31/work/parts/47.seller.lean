/-! the state while hours are bought; lateness; the next seller -/
def DU (z : Nat → Int32) (n : Nat) (du : Nat → Nat) : Prop := (∀ t, t < n → z (52 + t) = nI (du t)) ∧ sumN du n ≤ 3000 * n
def TS (P : PD) (E o : Nat → Nat) (B Z : Blk) (du : Nat → Nat) : Prop := RelP B (Z 1) P E o ∧ (∀ t, t < pn P → Z 8 t = nI (E t)) ∧ AG (pn P) (B 11) (Z 9) ∧ DU (Z 1) (pn P) du
theorem DU.le {z : Nat → Int32} {n : Nat} {du : Nat → Nat} (h : DU z n du) (hn : n ≤ 24) {t : Nat} (ht : t < n) : du t ≤ 72000 := by
  have h1 := sumN_le (f := du) ht
  have h2 := h.2
  omega
theorem RelP.du {B : Blk} {z : Nat → Int32} {P : PD} {E o : Nat → Nat} (h : RelP B z P E o) : ∃ du, DU z (pn P) du := h.2.2.2.2.2.2.2.2.2.1
theorem nI_max0 {a b : Nat} (ha : a < 2 ^ 31) (hb : b < 2 ^ 31) : (if 0 < nI a - nI b then nI a - nI b else 0) = nI (a - b) := by
  by_cases c : b ≤ a
  · rw [nI_sub c, k0, lt_nI (by omega) (by omega)]
    by_cases c2 : 0 < a - b
    · rw [if_pos c2]
    · rw [if_neg c2, show a - b = 0 by omega]
  · have h := nI_subneg (show a < b by omega) hb
    have h2 : ¬ 0 < nI a - nI b := fun q => by
      rw [Int32.lt_iff_toInt_lt] at h q
      omega
    rw [if_neg h2, show a - b = 0 by omega]
    rfl
theorem nI_max0' {a b : Nat} {α : Type} {F : Int32 → α} (ha : a < 2 ^ 31) (hb : b < 2 ^ 31) : (if nI a - nI b ≤ 0 then F 0 else F (nI a - nI b)) = F (nI (a - b)) := by
  by_cases c : b ≤ a
  · rw [nI_sub c, if_nIle0 (by omega)]
    by_cases c2 : a - b = 0
    · rw [if_pos c2, c2]; rfl
    · rw [if_neg c2]
  · have h := nI_subneg (show a < b by omega) hb
    have h2 : nI a - nI b ≤ 0 := by
      rw [Int32.lt_iff_toInt_lt] at h
      rw [Int32.le_iff_toInt_le]
      omega
    rw [if_pos h2, show a - b = 0 by omega]
    rfl
theorem p_lateOf {B : Blk} {z : Nat → Int32} {P : PD} {E o du : Nat → Nat} (h : RelP B z P E o) (hd : DU z (pn P) du) {t : Nat} (ht : t < pn P) : FX2_lateOf B (nI t) = some (nI (E t - du t)) := by
  have hn := h.n
  have h1 := hd.le hn ht
  have h2 := h.E_le ht
  have h3 := h.2.2.2.2.2.1 t ht
  have h4 := (h.2.2.2.2.2.2.2.2.1 t ht).1
  unfold FX2_lateOf
  rw [ld_nI (by omega) (by decide), ld_nI (by omega) (by decide), h3, h4, hd.1 t ht, nI_max0 (by omega) (by omega), lt1_eq]
theorem p_spareOf {B : Blk} {z : Nat → Int32} {P : PD} {E o du : Nat → Nat} (h : RelP B z P E o) (hd : DU z (pn P) du) {t : Nat} (ht : t < pn P) : FX2_spareOf B (nI t) = some (nI (du t - E t)) := by
  have hn := h.n
  have h1 := hd.le hn ht
  have h2 := h.E_le ht
  have h3 := h.2.2.2.2.2.1 t ht
  have h4 := (h.2.2.2.2.2.2.2.2.1 t ht).1
  unfold FX2_spareOf
  rw [ld_nI (by omega) (by decide), ld_nI (by omega) (by decide), h3, h4, hd.1 t ht, nI_max0 (by omega) (by omega), lt1_eq]
theorem q_late {Z : Blk} {n : Nat} {E du : Nat → Nat} (hn : n ≤ 24) (hE : ∀ t, t < n → Z 8 t = nI (E t)) (hE2 : ∀ t, t < n → E t < 1000000) (hd : DU (Z 1) n du) {t : Nat} (ht : t < n) : FX6_late Z (nI t) = some (nI (E t - du t)) := by
  have h1 := hd.le hn ht
  have h2 := hE2 t ht
  unfold FX6_late
  rw [ld_nI (by omega) (by decide), k52, nI_add, ld_nI (by omega) (by decide), hE t ht, hd.1 t ht, lt1_eq, nI_max0' (F := fun x => some x) (by omega) (by omega)]
theorem q_spared {Z : Blk} {n : Nat} {E du : Nat → Nat} (hn : n ≤ 24) (hE : ∀ t, t < n → Z 8 t = nI (E t)) (hE2 : ∀ t, t < n → E t < 1000000) (hd : DU (Z 1) n du) {t : Nat} (ht : t < n) : FX6_spared Z (nI t) = some (nI (du t - E t)) := by
  have h1 := hd.le hn ht
  have h2 := hE2 t ht
  unfold FX6_spared
  rw [k52, nI_add, ld_nI (by omega) (by decide), ld_nI (by omega) (by decide), hE t ht, hd.1 t ht, lt1_eq, nI_max0' (F := fun x => some x) (by omega) (by omega)]
/-- the sets of those that were asked: the class has the buyer in it -/
def SS (n b : Nat) (S S' : Int32) : Prop := ∀ t, t < n → bt S t = (bt S' t || decide (t = b))
theorem seller_both {P : PD} {E o du : Nat → Nat} {B Z : Blk} (h : TS P E o B Z du) {b : Nat} {S S' : Int32} (hS : SS (pn P) b S S') (hb : b < pn P) : ∃ r, FX2_bestSellerExcept B S = some r ∧ FX6_nextOffer Z (nI b) S' = some r ∧ (r = -6 ∨ ∃ j, j < pn P ∧ r = nI j ∧ bt S j = false) := by
  obtain ⟨hR, hE, hA, hD⟩ := h
  have hn := hR.n
  have key : ∀ d t fuel fuel' r, t + d = pn P → d < fuel → d < fuel' → (r = -6 ∨ ∃ j, j < pn P ∧ r = nI j ∧ bt S j = false) → ∃ r', FX2_bestSellerExcept_5 B fuel S r (nI t) = some r' ∧ FX6_nextOffer_6 Z fuel' (nI b) S' r (nI t) = some r' ∧ (r' = -6 ∨ ∃ j, j < pn P ∧ r' = nI j ∧ bt S j = false) := by
    intro d
    induction d with
    | zero =>
      intro t fuel fuel' r ht hf hf' hr
      obtain ⟨k, rfl⟩ : ∃ k, fuel = k + 1 := ⟨fuel - 1, by omega⟩
      obtain ⟨k', rfl⟩ : ∃ k, fuel' = k + 1 := ⟨fuel' - 1, by omega⟩
      have e : t = pn P := by omega
      subst e
      refine ⟨r, ?_, ?_, hr⟩
      · show FX2_bestSellerExcept_5s B _ _ _ _ = _
        unfold FX2_bestSellerExcept_5s
        rw [hR.2.2.1.1, le_nI (by omega) (by omega), if_pos (Nat.le_refl _)]
      · show FX6_nextOffer_6s Z _ _ _ _ _ = _
        unfold FX6_nextOffer_6s
        rw [k0, ld_nI (by decide) (by decide), hR.2.1.1, le_nI (by omega) (by omega), if_pos (Nat.le_refl _)]
    | succ d ih =>
      intro t fuel fuel' r ht hf hf' hr
      obtain ⟨k, rfl⟩ : ∃ k, fuel = k + 1 := ⟨fuel - 1, by omega⟩
      obtain ⟨k', rfl⟩ : ∃ k, fuel' = k + 1 := ⟨fuel' - 1, by omega⟩
      have htn : t < pn P := by omega
      have nx := fun r hr => ih (t + 1) k k' r (by omega) (by omega) (by omega) hr
      obtain ⟨g1, g2, g3, g4⟩ := hR.2.2.2.2.2.2.2.2.1 t htn
      have g0 := hR.2.2.2.2.2.2.2.1.2.1
      have ea := hA t htn
      have c1' : FX2_bestSellerExcept_5 B (k + 1) S r (nI t) = if bt S t = true then FX2_bestSellerExcept_5 B k S r (nI (t + 1)) else if Z 1 (124 + t) ≤ 0 then FX2_bestSellerExcept_5 B k S r (nI (t + 1)) else if Z 9 t = -6 then FX2_bestSellerExcept_5 B k S r (nI (t + 1)) else if Z 1 2 < Z 9 t then FX2_bestSellerExcept_5 B k S r (nI (t + 1)) else if r = -6 then FX2_bestSellerExcept_5 B k S (nI t) (nI (t + 1)) else c1 (FX2_isBetterSeller B (nI t) r) fun r13 => if r13 = 0 then FX2_bestSellerExcept_5 B k S r (nI (t + 1)) else FX2_bestSellerExcept_5 B k S (nI t) (nI (t + 1)) := by
        show FX2_bestSellerExcept_5s B (FX2_bestSellerExcept_5 B k) _ _ _ = _
        unfold FX2_bestSellerExcept_5s FX2_isInReach FX2_bestSellerExcept_47
        rw [hR.2.2.1.1, le_nI (by omega) (by omega), if_neg (by omega), bt_ite (by omega), ld_nI (by omega) (by decide), ld_nI (by omega) (by decide), g3, ea, g0, lt1_eq, lt1_eq, k1, nI_add]
        by_cases q0 : bt S t = true
        · rw [if_pos q0, if_pos q0]
        · rw [if_neg q0, if_neg q0]
          by_cases q1 : Z 1 (124 + t) ≤ 0
          · rw [if_pos q1, if_pos q1]; rfl
          · rw [if_neg q1, if_neg q1]
            by_cases q2 : Z 9 t = -6
            · rw [if_pos q2, if_pos q2]; rfl
            · rw [if_neg q2, if_neg q2]
              by_cases q3 : Z 1 2 < Z 9 t
              · rw [if_pos q3, if_pos q3]; rfl
              · rw [if_neg q3, if_neg q3]; rfl
      have c2' : FX6_nextOffer_6 Z (k' + 1) (nI b) S' r (nI t) = if bt S t = true then FX6_nextOffer_6 Z k' (nI b) S' r (nI (t + 1)) else if Z 1 (124 + t) ≤ 0 then FX6_nextOffer_6 Z k' (nI b) S' r (nI (t + 1)) else if Z 9 t = -6 then FX6_nextOffer_6 Z k' (nI b) S' r (nI (t + 1)) else if Z 1 2 < Z 9 t then FX6_nextOffer_6 Z k' (nI b) S' r (nI (t + 1)) else if r = -6 then FX6_nextOffer_6 Z k' (nI b) S' (nI t) (nI (t + 1)) else c1 (FX6_isSooner Z (nI t) r) fun r13 => if r13 = 0 then FX6_nextOffer_6 Z k' (nI b) S' r (nI (t + 1)) else FX6_nextOffer_6 Z k' (nI b) S' (nI t) (nI (t + 1)) := by
        show FX6_nextOffer_6s Z (FX6_nextOffer_6 Z k') _ _ _ _ = _
        unfold FX6_nextOffer_6s FX6_nextOffer_77
        have e78 : FX6_nextOffer_78 Z (FX6_nextOffer_6 Z k') (nI b) S' r (nI t) 0 = FX6_nextOffer_6 Z k' (nI b) S' r (nI (t + 1)) := by
          unfold FX6_nextOffer_78
          rw [if_pos rfl, lt1_eq, k1, nI_add]
        have e1 : FX6_nextOffer_78 Z (FX6_nextOffer_6 Z k') (nI b) S' r (nI t) 1 = if r = -6 then FX6_nextOffer_6 Z k' (nI b) S' (nI t) (nI (t + 1)) else c1 (FX6_isSooner Z (nI t) r) fun r13 => if r13 = 0 then FX6_nextOffer_6 Z k' (nI b) S' r (nI (t + 1)) else FX6_nextOffer_6 Z k' (nI b) S' (nI t) (nI (t + 1)) := by
          unfold FX6_nextOffer_78 FX6_nextOffer_101
          rw [if_neg (show ¬ (1 : Int32) = 0 by decide), lt1_eq, lt1_eq, k1, nI_add]
        rw [e78, e1, k0, ld_nI (by decide) (by decide), hR.2.1.1, le_nI (by omega) (by omega), if_neg (by omega), eq_nI (by omega) (by omega), k124, nI_add, ld_nI (by omega) (by decide), ld_nI (by omega) (by decide), ld_nI (by omega) (by decide), k2, ld_nI (by decide) (by decide), ← k0, bt_ite (by omega)]
        have hs := hS t htn
        by_cases q0 : bt S t = true
        · rw [if_pos q0]
          by_cases qb : t = b
          · rw [if_pos qb]
          · rw [if_neg qb]
            rw [q0] at hs
            have : bt S' t = true := by
              rw [decide_eq_false qb, Bool.or_false] at hs
              exact hs.symm
            rw [if_pos this]
            split
            · rfl
            · split
              · rfl
              · split <;> rfl
        · rw [if_neg q0]
          have q0' : bt S t = false := by simpa using q0
          rw [q0'] at hs
          have hs2 : bt S' t = false ∧ ¬ t = b := by
            have := hs.symm
            rw [Bool.or_eq_false_iff] at this
            exact ⟨this.1, by simpa using this.2⟩
          rw [if_neg hs2.2, if_neg (show ¬ bt S' t = true by rw [hs2.1]; decide)]
      have same : ∀ j, j < pn P → FX2_isBetterSeller B (nI t) (nI j) = FX6_isSooner Z (nI t) (nI j) := by
        intro j hj
        obtain ⟨-, -, -, y4⟩ := hR.2.2.2.2.2.2.2.2.1 j hj
        unfold FX2_isBetterSeller FX6_isSooner
        rw [k148, nI_add, nI_add, ld_nI (f := B 19) (by omega) (by decide), ld_nI (f := B 19) (by omega) (by decide), ld_nI (f := B 11) (by omega) (by decide), ld_nI (f := B 11) (by omega) (by decide), ld_nI (f := B 19) (by omega) (by decide), ld_nI (f := B 19) (by omega) (by decide), ld_nI (f := Z 1) (by omega) (by decide), ld_nI (f := Z 1) (by omega) (by decide), ld_nI (f := Z 9) (by omega) (by decide), ld_nI (f := Z 9) (by omega) (by decide), ld_nI (f := Z 1) (by omega) (by decide), ld_nI (f := Z 1) (by omega) (by decide), g4, y4, ea, hA j hj]
      rw [c1', c2']
      by_cases q0 : bt S t = true
      · rw [if_pos q0, if_pos q0]; exact nx r hr
      · have q0' : bt S t = false := by simpa using q0
        rw [if_neg q0, if_neg q0]
        by_cases q1 : Z 1 (124 + t) ≤ 0
        · rw [if_pos q1, if_pos q1]; exact nx r hr
        · rw [if_neg q1, if_neg q1]
          by_cases q2 : Z 9 t = -6
          · rw [if_pos q2, if_pos q2]; exact nx r hr
          · rw [if_neg q2, if_neg q2]
            by_cases q3 : Z 1 2 < Z 9 t
            · rw [if_pos q3, if_pos q3]; exact nx r hr
            · rw [if_neg q3, if_neg q3]
              have new : nI t = -6 ∨ ∃ j, j < pn P ∧ nI t = nI j ∧ bt S j = false := Or.inr ⟨t, htn, rfl, q0'⟩
              rcases hr with e | ⟨j, hj, e, hj2⟩
              · rw [if_pos e, if_pos e]; exact nx (nI t) new
              · subst e
                rw [if_neg (m6_ne (by omega)), if_neg (m6_ne (by omega)), same j hj]
                cases hx : FX6_isSooner Z (nI t) (nI j) with
                | none =>
                  exfalso
                  unfold FX6_isSooner at hx
                  rw [k148, nI_add, nI_add, ld_nI (by omega) (by decide), ld_nI (by omega) (by decide), ld_nI (by omega) (by decide), ld_nI (by omega) (by decide), ld_nI (by omega) (by decide), ld_nI (by omega) (by decide)] at hx
                  split at hx
                  · split at hx <;> exact absurd hx (by simp)
                  · split at hx <;> exact absurd hx (by simp)
                | some x =>
                  rw [c1_eq, c1_eq]
                  by_cases qx : x = 0
                  · rw [if_pos qx, if_pos qx]; exact nx (nI j) (Or.inr ⟨j, hj, rfl, hj2⟩)
                  · rw [if_neg qx, if_neg qx]; exact nx (nI t) new
  unfold FX2_bestSellerExcept FX6_nextOffer
  exact key (pn P) 0 fu fu (-6) (by omega) (fu_gt (by omega)) (fu_gt (by omega)) (Or.inl rfl)
