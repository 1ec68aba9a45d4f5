/-! count, at, ofContract, distance -/
theorem r_count {B Z : Blk} (h : Rel B (Z 1)) (hi : Idle Z) (a : Int32) : (a = 8 ∧ ∃ Z' : Blk, (∀ q, q ≠ 7 → q ≠ 8 → Z' q = Z q) ∧ FX6_count Z a = some (Z 0 8, Z')) ∨ (a = 9 ∧ ∃ Z' : Blk, (∀ q, q ≠ 7 → q ≠ 8 → Z' q = Z q) ∧ FX6_count Z a = some (Z 0 5, Z')) ∨ (¬ a = 8 ∧ ¬ a = 9 ∧ ∃ (r : Int32) (Z' : Blk), (∀ q, q ≠ 7 → q ≠ 8 → Z' q = Z q) ∧ FX6_count Z a = some (r, Z') ∧ FX2_tellOfAll B a = some r) := by
  obtain ⟨P, E, o, hR⟩ := h
  have hn := hR.n
  have hP := hR.1
  have hB := hR.2.2.1
  have hz := hR.2.1
  obtain ⟨du, hD⟩ := hR.du
  obtain ⟨k, hk1, hk2, hk3⟩ := hR.k
  obtain ⟨Z9, r1, r2, r3⟩ := reck hP hz (held_none hP hi.1) hR.2.2.2.2.1 hR.2.2.2.1
  have z1 : Z9 1 = Z 1 := r2 1 (by omega) (by omega)
  have z0 : Z9 0 = Z 0 := r2 0 (by omega) (by omega)
  have hE2 : ∀ t, t < pn P → E t < 1000000 := fun t ht => by have := hR.E_le ht; omega
  have hE8 : ∀ t, t < pn P → Z9 8 t = nI (E t) := fun t ht => (r3 t ht).2
  have h0 : Z9 1 0 = nI (pn P) := by rw [z1]; exact hz.1
  have hD9 : DU (Z9 1) (pn P) du := by rw [z1]; exact hD
  have h14 : ∀ c, c < k → B 14 c = Z 1 (276 + c) := by
    obtain ⟨k', w1, w2, w3, w4⟩ := hR.2.2.2.2.2.2.2.2.2.2.2.2
    have : k' = k := (nI_eq (by omega) (by omega)).mp (by rw [← w3, hk3])
    subst this
    exact fun c hc => (w4 c hc).1.2.2.1
  unfold FX6_count FX2_tellOfAll
  rw [q_in, c1_eq, ite_bool]
  by_cases cr : 0 ≤ a ∧ a ≤ 15
  · rw [if_pos cr, r1, c2_eq, z0]
    by_cases c : a = 0
    · rw [if_pos c, if_pos c, k0, ld_nI (by omega) (by decide), h0, hB.1]
      exact Or.inr (Or.inr ⟨by rw [c]; decide, by rw [c]; decide, _, Z9, r2, rfl, rfl⟩)
    · rw [if_neg c, if_neg c]
      by_cases c : a = 1
      · rw [if_pos c, if_pos c, k3, ld_nI (by omega) (by decide), z1, hk3, hk2]
        exact Or.inr (Or.inr ⟨by rw [c]; decide, by rw [c]; decide, _, Z9, r2, rfl, rfl⟩)
      · rw [if_neg c, if_neg c]
        by_cases c : a = 2
        · rw [if_pos c, if_pos c, q_offers hn h0, c1_eq, p_offers hR, c1_eq, z1]
          exact Or.inr (Or.inr ⟨by rw [c]; decide, by rw [c]; decide, _, Z9, r2, rfl, rfl⟩)
        · rw [if_neg c, if_neg c]
          by_cases c : a = 3
          · rw [if_pos c, if_pos c, q_lateSet hn h0 hE8 hE2 hD9, c1_eq, p_lateTasks hR hD, c1_eq]
            exact Or.inr (Or.inr ⟨by rw [c]; decide, by rw [c]; decide, _, Z9, r2, rfl, rfl⟩)
          · rw [if_neg c, if_neg c]
            by_cases c : a = 4
            · rw [if_pos c, if_pos c, q_lateTogether hn h0 hE8 hE2 hD9, c1_eq, p_lateTogether hR hD, c1_eq]
              exact Or.inr (Or.inr ⟨by rw [c]; decide, by rw [c]; decide, _, Z9, r2, rfl, rfl⟩)
            · rw [if_neg c, if_neg c]
              by_cases c : a = 5
              · rw [if_pos c, if_pos c, q_endOfAll hn h0 hE8 hE2, c1_eq, p_endOfAll hB.1 hn hR.2.2.2.2.2.1 (fun t ht => by have := hE2 t ht; omega), c1_eq]
                exact Or.inr (Or.inr ⟨by rw [c]; decide, by rw [c]; decide, _, Z9, r2, rfl, rfl⟩)
              · rw [if_neg c, if_neg c]
                by_cases c : a = 6
                · rw [if_pos c, if_pos c, k0, ld_nI (by omega) (by decide), h0, k76, q_sumOf (by omega), c1_eq, p_allMoney hR, c1_eq, z1]
                  exact Or.inr (Or.inr ⟨by rw [c]; decide, by rw [c]; decide, _, Z9, r2, rfl, rfl⟩)
                · rw [if_neg c, if_neg c]
                  by_cases c : a = 7
                  · rw [if_pos c, if_pos c, k3, ld_nI (by omega) (by decide), z1, hk3, k276, q_sumOf (by omega), c1_eq, p_allHours hk2 hk1 h14, c1_eq, z1]
                    exact Or.inr (Or.inr ⟨by rw [c]; decide, by rw [c]; decide, _, Z9, r2, rfl, rfl⟩)
                  · rw [if_neg c, if_neg c]
                    by_cases c : a = 8
                    · rw [if_pos c]
                      exact Or.inl ⟨c, Z9, r2, rfl⟩
                    · rw [if_neg c, if_neg c]
                      by_cases c : a = 9
                      · rw [if_pos c]
                        exact Or.inr (Or.inl ⟨c, Z9, r2, rfl⟩)
                      · rw [if_neg c, if_neg c]
                        obtain ⟨q, -, hq, rfl⟩ := nI_btw (a := 0) (b := 15) (by decide) cr.1 cr.2 (by decide)
                        have hq10 : 10 ≤ q := by
                          have : q ≠ 0 ∧ q ≠ 1 ∧ q ≠ 2 ∧ q ≠ 3 ∧ q ≠ 4 ∧ q ≠ 5 ∧ q ≠ 6 ∧ q ≠ 7 ∧ q ≠ 8 ∧ q ≠ 9 := by
                            refine ⟨?_, ?_, ?_, ?_, ?_, ?_, ?_, ?_, ?_, ?_⟩ <;> (intro e; subst e; contradiction)
                          omega
                        have a1 := hR.2.2.2.2.2.2.2.1.1
                        have a2 := hR.2.2.2.2.2.2.2.1.2.1
                        have hc : q = 10 ∨ q = 11 ∨ 12 ≤ q := by omega
                        rcases hc with rfl | rfl | hc
                        · rw [if_pos (show nI 10 = 10 from rfl), if_neg (show ¬ 12 ≤ nI 10 by decide), show (1 + nI 10) - 10 = nI 1 from rfl, ld_nI (by omega) (by decide), z1, a1]
                          exact Or.inr (Or.inr ⟨by decide, by decide, _, Z9, r2, rfl, rfl⟩)
                        · rw [if_neg (show ¬ nI 11 = 10 by decide), if_pos (show nI 11 = 11 from rfl), if_neg (show ¬ 12 ≤ nI 11 by decide), show (1 + nI 11) - 10 = nI 2 from rfl, ld_nI (by omega) (by decide), z1, a2]
                          exact Or.inr (Or.inr ⟨by decide, by decide, _, Z9, r2, rfl, rfl⟩)
                        · have e12 : nI q - 12 = nI (q - 12) := nI_sub (b := 12) hc
                          rw [if_pos (show (12 : Int32) ≤ nI q from (nI_leI (a := 12) (by decide) (by omega)).mpr hc), e12, q_manyOn hP (by rw [z1]; exact hz) (by omega), c1_eq]
                          have e9 : (if nI q = 10 then some (B 0 2) else if nI q = 11 then some (B 0 3) else if nI q = 12 then ld (B 9) 4 (nI (q - 12)) fun v26 => some v26 else if nI q = 13 then ld (B 9) 4 (nI (q - 12)) fun v30 => some v30 else if nI q = 14 then ld (B 9) 4 (nI (q - 12)) fun v34 => some v34 else if nI q = 15 then ld (B 9) 4 (nI (q - 12)) fun v38 => some v38 else some (-2)) = some (nI (cn P (q - 12))) := by
                            have hv : ld (B 9) 4 (nI (q - 12)) (fun v => some v) = some (nI (cn P (q - 12))) := by
                              rw [ld_nI (by omega) (by decide), hB.2.2.1 _ (by omega)]
                            rw [hv]
                            have : q = 12 ∨ q = 13 ∨ q = 14 ∨ q = 15 := by omega
                            rcases this with rfl | rfl | rfl | rfl <;> rfl
                          exact Or.inr (Or.inr ⟨by assumption, by assumption, nI (cn P (q - 12)), Z9, r2, rfl, e9⟩)
  · rw [if_neg cr]
    have hne : ∀ q, q ≤ 15 → ¬ a = nI q := fun q hq e => cr (by rw [e]; exact ⟨nI_pos' (by omega), (nI_leI (by omega) (by decide)).mpr hq⟩)
    rw [if_neg (show ¬ a = 0 from hne 0 (by omega)), if_neg (show ¬ a = 1 from hne 1 (by omega)), if_neg (show ¬ a = 2 from hne 2 (by omega)), if_neg (show ¬ a = 3 from hne 3 (by omega)), if_neg (show ¬ a = 4 from hne 4 (by omega)), if_neg (show ¬ a = 5 from hne 5 (by omega)), if_neg (show ¬ a = 6 from hne 6 (by omega)), if_neg (show ¬ a = 7 from hne 7 (by omega)), if_neg (show ¬ a = 8 from hne 8 (by omega)), if_neg (show ¬ a = 9 from hne 9 (by omega)), if_neg (show ¬ a = 10 from hne 10 (by omega)), if_neg (show ¬ a = 11 from hne 11 (by omega)), if_neg (show ¬ a = 12 from hne 12 (by omega)), if_neg (show ¬ a = 13 from hne 13 (by omega)), if_neg (show ¬ a = 14 from hne 14 (by omega)), if_neg (show ¬ a = 15 from hne 15 (by omega))]
    exact Or.inr (Or.inr ⟨hne 8 (by omega), hne 9 (by omega), -2, Z, fun _ _ _ => rfl, rfl, rfl⟩)
theorem r_ofContract {B Z : Blk} (h : Rel B (Z 1)) (a b : Int32) : ∃ r, FX0_tell B a b = some r ∧ FX6_ofContract Z a b = some r := by
  obtain ⟨P, E, o, hR⟩ := h
  obtain ⟨k, w1, w2, w3, w4⟩ := hR.2.2.2.2.2.2.2.2.2.2.2.2
  unfold FX0_tell FX6_ofContract
  by_cases d0 : inT k a
  · rw [(p_hasC w2 a).1 d0, (q_isContract w3 a).1 d0, c1_eq, c1_eq, if_neg (show ¬ (1 : Int32) = 0 by decide), if_neg (show ¬ (1 : Int32) = 0 by decide), q_in, c1_eq, ite_bool]
    obtain ⟨c, hc, rfl⟩ := inT_of d0 (by omega)
    obtain ⟨⟨y1, y2, y3, y4⟩, -⟩ := w4 c hc
    by_cases cr : 0 ≤ b ∧ b ≤ 3
    · rw [if_pos cr]
      obtain ⟨q, -, hq, rfl⟩ := nI_btw (a := 0) (b := 3) (by decide) cr.1 cr.2 (by decide)
      have : q = 0 ∨ q = 1 ∨ q = 2 ∨ q = 3 := by omega
      rcases this with rfl | rfl | rfl | rfl
      · rw [if_pos (show nI 0 = 0 from rfl), ld_nI (by omega) (by decide), show (196 + 40 * nI 0 : Int32) = nI 196 from rfl, nI_add, ld_nI (by omega) (by decide), y1]
        exact ⟨_, rfl, rfl⟩
      · rw [if_neg (show ¬ nI 1 = 0 by decide), if_pos (show nI 1 = 1 from rfl), ld_nI (by omega) (by decide), show (196 + 40 * nI 1 : Int32) = nI 236 from rfl, nI_add, ld_nI (by omega) (by decide), y2]
        exact ⟨_, rfl, rfl⟩
      · rw [if_neg (show ¬ nI 2 = 0 by decide), if_neg (show ¬ nI 2 = 1 by decide), if_pos (show nI 2 = 2 from rfl), ld_nI (by omega) (by decide), show (196 + 40 * nI 2 : Int32) = nI 276 from rfl, nI_add, ld_nI (by omega) (by decide), y3]
        exact ⟨_, rfl, rfl⟩
      · rw [if_neg (show ¬ nI 3 = 0 by decide), if_neg (show ¬ nI 3 = 1 by decide), if_neg (show ¬ nI 3 = 2 by decide), if_pos (show nI 3 = 3 from rfl), ld_nI (by omega) (by decide), show (196 + 40 * nI 3 : Int32) = nI 316 from rfl, nI_add, ld_nI (by omega) (by decide), y4]
        exact ⟨_, rfl, rfl⟩
    · rw [if_neg cr]
      have hne : ∀ q, q ≤ 3 → ¬ b = nI q := fun q hq e => cr (by rw [e]; exact ⟨nI_pos' (by omega), (nI_leI (by omega) (by decide)).mpr hq⟩)
      rw [if_neg (show ¬ b = 0 from hne 0 (by omega)), if_neg (show ¬ b = 1 from hne 1 (by omega)), if_neg (show ¬ b = 2 from hne 2 (by omega)), if_neg (show ¬ b = 3 from hne 3 (by omega))]
      exact ⟨_, rfl, rfl⟩
  · rw [(p_hasC w2 a).2 d0, (q_isContract w3 a).2 d0]
    exact ⟨-1, rfl, rfl⟩
theorem r_at {M : Mem} {Z : Blk} (h : Rel (M 0) (Z 1)) (a b : Int32) : ∃ r, FX5_at M a b = some r ∧ FX6_at Z a b = some r := by
  obtain ⟨P, E, o, hR⟩ := h
  have hn := hR.n
  have hP := hR.1
  have hB := hR.2.2.1
  have hz := hR.2.1
  have e : ∀ X Y : Option Int32, (if a < 0 then X else if a < 4 then Y else X) = if 0 ≤ a ∧ a ≤ 3 then Y else X := by
    intro X Y
    have e : (a < 4) ↔ a ≤ 3 := by
      rw [Int32.lt_iff_toInt_lt, Int32.le_iff_toInt_le, show (4 : Int32).toInt = 4 from rfl, show (3 : Int32).toInt = 3 from rfl]
      omega
    by_cases h1 : a < 0
    · rw [if_pos h1, if_neg (fun q => absurd q.1 (Int32.not_le.mpr h1))]
    · by_cases h2 : a ≤ 3
      · rw [if_neg h1, if_pos (e.mpr h2), if_pos ⟨Int32.not_lt.mp h1, h2⟩]
      · rw [if_neg h1, if_neg (fun q => h2 (e.mp q)), if_neg (fun q => h2 q.2)]
  unfold FX5_at FX6_at
  rw [e, q_in, c1_eq, ite_bool]
  by_cases c : 0 ≤ a ∧ a ≤ 3
  · rw [if_pos c, if_pos c]
    obtain ⟨m, -, hm, rfl⟩ := nI_btw (a := 0) (b := 3) (by decide) c.1 c.2 (by decide)
    by_cases hb : b < 0
    · rw [p_inRow_neg (P := P) hb, q_taskAt_neg hP hz (by omega) hb]
      exact ⟨_, rfl, rfl⟩
    · obtain ⟨p, hp, rfl⟩ := nI_of hb
      rw [p_inRow hP hB (by omega) hp, q_taskAt hP hz (by omega) hp]
      exact ⟨_, rfl, rfl⟩
  · rw [if_neg c, if_neg c]
    exact ⟨_, rfl, rfl⟩
theorem r_dist {B Z : Blk} {P : PD} {E o : Nat → Nat} (hR : RelP B (Z 1) P E o) {t u : Nat} (ht : t < pn P) (hu : u < pn P) : ∃ L L' : Nat → Int32, FX4_measureFrom B (nI t) = some (bc B 11 L) ∧ FX6_measure Z (nI t) = some (bc Z 9 L') ∧ L u = L' u :=
  ⟨_, _, p_measureFrom hR.1 hR.2.2.1 ht, q_measure hR.1 hR.2.1 ht, MF_AG t _ _ u hu⟩
