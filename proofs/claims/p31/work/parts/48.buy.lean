/-! one seller is asked -/
theorem Rest_add {B : Blk} {z : Nat → Int32} {P : PD} {E o : Nat → Nat} (h : RelP B z P E o) {k s b : Nat} {v p : Int32} (hk : z 3 = nI k) (hk4 : k < 40) (hs : s < pn P) (hb : b < pn P) : RelP (bs (bs (bs (bs (bs B 12 k (nI s)) 13 k (nI b)) 14 k v) 15 k p) 2 0 (nI (k + 1))) (upd (upd (upd (upd (upd z 3 (nI (k + 1))) (196 + k) (nI s)) (236 + k) (nI b)) (276 + k) v) (316 + k) p) P E o := by
  have hn := h.n
  refine RelP_rest h (fun q hq => by (repeat (first | rw [bs_o (by omega)] | rw [bs_kk] | rw [bs_kn (by omega)]))) (fun q hq => by (repeat (first | rw [upd_ne (by omega)] | rw [upd_at]))) ?_
  have hr := h.2.2.2.2.2.2.2
  obtain ⟨k', k1, k2, k3, k4⟩ := hr.2.2.2.2.2
  have ek : k' = k := (nI_eq (by omega) (by omega)).mp (by rw [← k3, hk])
  subst ek
  refine Rest_ctr hr (fun q hq => by (repeat (first | rw [bs_o (by omega)] | rw [bs_kk] | rw [bs_kn (by omega)]))) (fun q hq => by (repeat (first | rw [upd_ne (by omega)] | rw [upd_at]))) hn (k' := k' + 1) (by omega) bs_kk (by (repeat (first | rw [upd_ne (by omega)] | rw [upd_at]))) (fun i hi => ?_)
  by_cases c : i = k'
  · subst c
    refine ⟨⟨?_, ?_, ?_, ?_⟩, ⟨s, hs, ?_⟩, ⟨b, hb, ?_⟩⟩
    · (repeat (first | rw [bs_o (by omega)] | rw [bs_kk] | rw [bs_kn (by omega)])); (repeat (first | rw [upd_ne (by omega)] | rw [upd_at]))
    · (repeat (first | rw [bs_o (by omega)] | rw [bs_kk] | rw [bs_kn (by omega)])); (repeat (first | rw [upd_ne (by omega)] | rw [upd_at]))
    · (repeat (first | rw [bs_o (by omega)] | rw [bs_kk] | rw [bs_kn (by omega)])); (repeat (first | rw [upd_ne (by omega)] | rw [upd_at]))
    · (repeat (first | rw [bs_o (by omega)] | rw [bs_kk] | rw [bs_kn (by omega)])); (repeat (first | rw [upd_ne (by omega)] | rw [upd_at]))
    · (repeat (first | rw [upd_ne (by omega)] | rw [upd_at]))
    · (repeat (first | rw [upd_ne (by omega)] | rw [upd_at]))
  · have := k4 i (by omega)
    rw [bs_o (o' := 12) (by omega), bs_o (o' := 12) (by omega), bs_o (o' := 12) (by omega), bs_o (o' := 12) (by omega), bs_o (o' := 13) (by omega), bs_o (o' := 13) (by omega), bs_o (o' := 13) (by omega), bs_o (o' := 14) (by omega), bs_o (o' := 14) (by omega), bs_o (o' := 15) (by omega), bs_kn c, bs_kn c, bs_o (o' := 13) (by omega), bs_kn c, bs_o (o' := 14) (by omega), bs_o (o' := 14) (by omega), bs_kn c, bs_o (o' := 15) (by omega), bs_o (o' := 15) (by omega), bs_o (o' := 15) (by omega)]
    rw [upd_ne (j := 196 + i) (by omega), upd_ne (j := 196 + i) (by omega), upd_ne (j := 196 + i) (by omega), upd_ne (j := 196 + i) (by omega), upd_ne (j := 196 + i) (by omega), upd_ne (j := 236 + i) (by omega), upd_ne (j := 236 + i) (by omega), upd_ne (j := 236 + i) (by omega), upd_ne (j := 236 + i) (by omega), upd_ne (j := 236 + i) (by omega), upd_ne (j := 276 + i) (by omega), upd_ne (j := 276 + i) (by omega), upd_ne (j := 276 + i) (by omega), upd_ne (j := 276 + i) (by omega), upd_ne (j := 276 + i) (by omega), upd_ne (j := 316 + i) (by omega), upd_ne (j := 316 + i) (by omega), upd_ne (j := 316 + i) (by omega), upd_ne (j := 316 + i) (by omega), upd_ne (j := 316 + i) (by omega)]
    exact this
theorem minI {a b : Nat} (ha : a < 2 ^ 31) (hb : b < 2 ^ 31) : (if nI a < nI b then nI a else nI b) = nI (min a b) := by
  rw [lt_nI ha hb]
  by_cases c : a < b
  · rw [if_pos c, Nat.min_eq_left (by omega)]
  · rw [if_neg c, Nat.min_eq_right (by omega)]
theorem q_less {a b : Nat} (ha : a < 2 ^ 31) (hb : b < 2 ^ 31) : FX6_less (nI a) (nI b) = some (nI (min a b)) := by
  unfold FX6_less
  rw [le_nI hb ha]
  by_cases c : b ≤ a
  · rw [if_pos c, Nat.min_eq_right c]
  · rw [if_neg c, Nat.min_eq_left (by omega)]
theorem q_less2 (x y : Int32) : FX6_less x y = some (if y < x then y else x) := by
  unfold FX6_less
  by_cases c : y < x
  · rw [if_pos c, if_pos (Int32.le_of_lt c)]
  · rw [if_neg c]
    by_cases c2 : y ≤ x
    · rw [if_pos c2, Int32.le_antisymm c2 (Int32.not_lt.mp c)]
    · rw [if_neg c2]
/-- what a step of buying does to due times and contracts -/
def PROG (n : Nat) (E : Nat → Nat) (b : Nat) (du du' : Nat → Nat) (z z' : Nat → Int32) (k k' : Nat) : Prop := (k' = k ∧ du' = du ∧ z' = z) ∨ (k' = k + 1 ∧ ∃ x, 1 ≤ x ∧ x ≤ E b - du b ∧ du' b = du b + x ∧ z' (276 + k) = nI x ∧ (∀ c, c < k → z' (276 + c) = z (276 + c)) ∧ ∀ t, t < n → t ≠ b → E t - du' t = E t - du t)
set_option maxRecDepth 100000 in
theorem buy_step {P : PD} {E o du : Nat → Nat} {B Z : Blk} (h : TS P E o B Z du) {b j k : Nat} (hb : b < pn P) (hj : j < pn P) (hjb : j ≠ b) (hk : Z 1 3 = nI k) (hk4 : k < 40) : ∃ (B' : Blk) (z' : Nat → Int32) (du' : Nat → Nat) (k' : Nat) (hh : Int32),
    FX2_buyFrom B (nI j) (nI b) = some B' ∧ FX6_hoursOf Z (nI b) (nI j) = some hh ∧ ((hh ≤ 0 ∧ z' = Z 1) ∨ (¬ hh ≤ 0 ∧ FX6_agree Z (nI b) (nI j) hh = some (bc Z 1 z'))) ∧
    TS P E o B' (bc Z 1 z') du' ∧ B' 11 = B 11 ∧ z' 3 = nI k' ∧ PROG (pn P) E b du du' (Z 1) z' k k' := by
  obtain ⟨hR, hE, hA, hD⟩ := h
  have hn := hR.n
  have hr := hR.2.2.2.2.2.2.2
  have hE2 : ∀ t, t < pn P → E t < 1000000 := fun t ht => by have := hR.E_le ht; omega
  obtain ⟨hr1, htk, -, hho, hpr, k', hk1, hk2, hk3, hk5⟩ := hr
  have ek : k' = k := (nI_eq (by omega) (by omega)).mp (by rw [← hk3, hk])
  subst ek
  obtain ⟨j1, j2, j3, j4⟩ := htk j hj
  obtain ⟨b1, b2, b3, b4⟩ := htk b hb
  obtain ⟨h, hh1, hh2⟩ := hho j hj
  obtain ⟨p, hp1, hp2⟩ := hpr j hj
  have dj := hD.le hn hj
  have db := hD.le hn hb
  have ej := hE2 j hj
  have eb := hE2 b hb
  rw [hh2] at j3
  rw [hp2] at j4
  obtain ⟨w, hw⟩ : ∃ w, min (min (du j - E j) h) (E b - du b) = w := ⟨_, rfl⟩
  have hw1 : w ≤ du j - E j := by rw [← hw]; exact Nat.le_trans (Nat.min_le_left _ _) (Nat.min_le_left _ _)
  have hw2 : w ≤ h := by rw [← hw]; exact Nat.le_trans (Nat.min_le_left _ _) (Nat.min_le_right _ _)
  have hw3 : w ≤ E b - du b := by rw [← hw]; exact Nat.min_le_right _ _
  have hw' : min (min (E b - du b) h) (du j - E j) = w := by rw [← hw]; omega
  obtain ⟨hh, hhd⟩ : ∃ hh : Int32, (if p = 0 then nI w else if Z 1 (76 + b) / nI p < nI w then Z 1 (76 + b) / nI p else nI w) = hh := ⟨_, rfl⟩
  have hhw : hh ≤ nI w := by
    rw [← hhd]
    split
    · exact Int32.le_refl _
    · split
      · rename_i q; exact Int32.le_of_lt q
      · exact Int32.le_refl _
  -- the hours of both
  have qH : FX6_hoursOf Z (nI b) (nI j) = some hh := by
    unfold FX6_hoursOf
    rw [q_late hn hE hE2 hD hb, c1_eq, k124, nI_add, ld_nI (by omega) (by decide), hh2, q_less (by omega) (by omega), c1_eq, q_spared hn hE hE2 hD hj, c1_eq, q_less (by omega) (by omega), c1_eq, hw', k148, nI_add, ld_nI (by omega) (by decide), hp2, if_nI0 (by omega)]
    by_cases c : p = 0
    · rw [if_pos c] at hhd ⊢
      rw [hhd]
    · rw [if_neg c] at hhd ⊢
      rw [k76, nI_add, ld_nI (by omega) (by decide), nz_eq (fun q => c ((nI_eq (by omega) (by decide)).mp (by rw [q]; rfl))), q_less2, c1_eq, hhd]
  have pH : FX2_buyFrom B (nI j) (nI b) = FX2_buyFrom_50 (nI j) (nI b) (nI p) hh B := by
    unfold FX2_buyFrom
    rw [ld_nI (by omega) (by decide), j4, p_lateOf hR hD hb, c1_eq, ld_nI (by omega) (by decide), j3, p_spareOf hR hD hj, c1_eq, lt1_eq, minI (by omega) (by omega), lt1_eq, minI (by omega) (by omega), hw, if_nIle0 (by omega)]
    by_cases c : p = 0
    · rw [if_pos c] at hhd ⊢
      rw [hhd]
    · rw [if_neg c] at hhd ⊢
      rw [ld_nI (by omega) (by decide), b2, nz_eq (fun q => c ((nI_eq (by omega) (by decide)).mp (by rw [q]; rfl))), lt1_eq, hhd]
  rw [pH, qH]
  unfold FX2_buyFrom_50
  by_cases c0 : 0 < hh
  · have c0' : ¬ hh ≤ 0 := Int32.not_le.mpr c0
    rw [if_neg c0']
    obtain ⟨x, hx0, hx1, rfl⟩ := nI_btw (x := hh) (a := 0) (b := w) (by omega) (Int32.le_of_lt c0) hhw (by decide)
    have hx2 : 1 ≤ x := by
      rcases Nat.eq_zero_or_pos x with q | q
      · subst q; exact absurd c0 (by decide)
      · exact q
    -- the states, one change after the other
    have R1 := Rest_add hR (s := j) (b := b) (v := nI x) (p := nI p) hk hk4 hj hb
    obtain ⟨B1, hB1⟩ : ∃ B1, bs (bs (bs (bs (bs B 12 k' (nI j)) 13 k' (nI b)) 14 k' (nI x)) 15 k' (nI p)) 2 0 (nI (k' + 1)) = B1 := ⟨_, rfl⟩
    obtain ⟨z1, hz1⟩ : ∃ z1, upd (upd (upd (upd (upd (Z 1) 3 (nI (k' + 1))) (196 + k') (nI j)) (236 + k') (nI b)) (276 + k') (nI x)) (316 + k') (nI p) = z1 := ⟨_, rfl⟩
    rw [hB1, hz1] at R1
    have z1l : ∀ q, q ≠ 3 → q < 196 → z1 q = Z 1 q := fun q h1 h2 => by rw [← hz1]; (repeat (first | rw [upd_ne (by omega)] | rw [upd_at]))
    have B1l : ∀ q, q ≠ 2 → (q < 12 ∨ 15 < q) → B1 q = B q := fun q h1 h2 => by rw [← hB1]; (repeat (first | rw [bs_o (by omega)] | rw [bs_kk] | rw [bs_kn (by omega)]))
    have D1 : ∀ t, t < pn P → z1 (52 + t) = nI (du t) := fun t ht => by rw [z1l _ (by omega) (by omega)]; exact hD.1 t ht
    have R2 := due2_rel R1 D1 hD.2 hb hj (k := x) (by omega)
    have eu : u1 du j (du j - x) b = du b := u1_ne (Ne.symm hjb)
    rw [eu] at R2
    obtain ⟨B2, hB2⟩ : ∃ B2, bs (bs B1 16 j (nI (du j - x))) 16 b (nI (du b + x)) = B2 := ⟨_, rfl⟩
    obtain ⟨z2, hz2⟩ : ∃ z2, upd (upd z1 (52 + j) (nI (du j - x))) (52 + b) (nI (du b + x)) = z2 := ⟨_, rfl⟩
    rw [hB2, hz2] at R2
    have z2l : ∀ q, (q < 52 ∨ 76 ≤ q) → z2 q = z1 q := fun q h1 => by rw [← hz2]; (repeat (first | rw [upd_ne (by omega)] | rw [upd_at]))
    have B2l : ∀ q, q ≠ 16 → B2 q = B1 q := fun q h1 => by rw [← hB2]; (repeat (first | rw [bs_o (by omega)] | rw [bs_kk] | rw [bs_kn (by omega)]))
    have R3 := money_rel R2 (t := b) (v := z2 (76 + b) - nI x * nI p) hb
    obtain ⟨B3, hB3⟩ : ∃ B3, bs B2 17 b (z2 (76 + b) - nI x * nI p) = B3 := ⟨_, rfl⟩
    obtain ⟨z3, hz3⟩ : ∃ z3, upd z2 (76 + b) (z2 (76 + b) - nI x * nI p) = z3 := ⟨_, rfl⟩
    rw [hB3, hz3] at R3
    have R4 := money_rel R3 (t := j) (v := z3 (76 + j) + nI x * nI p) hj
    obtain ⟨B4, hB4⟩ : ∃ B4, bs B3 17 j (z3 (76 + j) + nI x * nI p) = B4 := ⟨_, rfl⟩
    obtain ⟨z4, hz4⟩ : ∃ z4, upd z3 (76 + j) (z3 (76 + j) + nI x * nI p) = z4 := ⟨_, rfl⟩
    rw [hB4, hz4] at R4
    have R5 := offer_rel R4 (t := j) (k := h - x) (p := if h - x = 0 then 0 else p) hj (by omega) (by split <;> omega)
    obtain ⟨z5, hz5⟩ : ∃ z5, upd (upd z4 (124 + j) (nI (h - x))) (148 + j) (nI (if h - x = 0 then 0 else p)) = z5 := ⟨_, rfl⟩
    obtain ⟨B5, hB5⟩ : ∃ B5, bs (bs B4 18 j (nI (h - x))) 19 j (nI (if h - x = 0 then 0 else p)) = B5 := ⟨_, rfl⟩
    rw [hB5, hz5] at R5
    have z4l : ∀ q, (q < 76 ∨ 100 ≤ q) → z4 q = z2 q := fun q h1 => by rw [← hz4, ← hz3]; (repeat (first | rw [upd_ne (by omega)] | rw [upd_at]))
    have z5l : ∀ q, (q < 124 ∨ 172 ≤ q) → z5 q = z4 q := fun q h1 => by rw [← hz5]; (repeat (first | rw [upd_ne (by omega)] | rw [upd_at]))
    have B5l : B5 11 = B 11 := by rw [← hB5, ← hB4, ← hB3, ← hB2, ← hB1]; (repeat (first | rw [bs_o (by omega)] | rw [bs_kk] | rw [bs_kn (by omega)]))
    have d5 : DU z5 (pn P) (u1 (u1 du j (du j - x)) b (du b + x)) := by
      refine ⟨fun t ht => ?_, ?_⟩
      · rw [z5l _ (by omega), z4l _ (by omega), ← hz2, upd_eq]
        by_cases c : t = b
        · rw [if_pos (by omega), c, u1_at]
        · rw [if_neg (by omega), u1_ne c, upd_eq]
          by_cases c2 : t = j
          · rw [if_pos (by omega), c2, u1_at]
          · rw [if_neg (by omega), u1_ne c2]; exact D1 t ht
      · have e1 := sumN_up (f := du) (g := u1 du j (du j - x)) hj (fun t _ c => u1_ne c)
        have e2 := sumN_up (f := u1 du j (du j - x)) (g := u1 (u1 du j (du j - x)) b (du b + x)) hb (fun t _ c => u1_ne c)
        rw [u1_at] at e1 e2
        rw [eu] at e2
        have := hD.2
        omega
    refine ⟨B5, z5, u1 (u1 du j (du j - x)) b (du b + x), k' + 1, nI x, ?_, rfl, Or.inr ⟨c0', ?_⟩, ⟨by rw [bc_at]; exact R5, by rw [bc_ne (by omega)]; exact hE, by rw [bc_ne (by omega), B5l]; exact hA, by rw [bc_at]; exact d5⟩, B5l, ?_, Or.inr ⟨rfl, x, hx2, by omega, u1_at, ?_, fun c hc => ?_, fun t ht c => ?_⟩⟩
    · -- the class
      have e16j : B1 16 j = nI (du j) := by rw [B1l 16 (by omega) (by omega), j1]; exact hD.1 j hj
      have e16b : bs B1 16 j (nI (du j - x)) 16 b = nI (du b) := by rw [bs_kn (Ne.symm hjb), B1l 16 (by omega) (by omega), b1]; exact hD.1 b hb
      have e17b : B2 17 b = z2 (76 + b) := (R2.2.2.2.2.2.2.2.2.1 b hb).2.1
      have e17j : B3 17 j = z3 (76 + j) := (R3.2.2.2.2.2.2.2.2.1 j hj).2.1
      have e18 : B4 18 j = nI h := by rw [← hB4, ← hB3, ← hB2, ← hB1]; (repeat (first | rw [bs_o (by omega)] | rw [bs_kk] | rw [bs_kn (by omega)])); exact j3
      have app : FX0_append B (nI j) (nI b) (nI x) (nI p) = some (1, B1) := by
        unfold FX0_append
        rw [hk2, show (40 : Int32) = nI 40 from rfl, lt_nI (by omega) (by decide), if_pos hk4, stb_nI (by omega) (by decide), bs_o (o' := 2) (by omega), hk2, stb_nI (by omega) (by decide), bs_o (o' := 2) (by omega), bs_o (o' := 2) (by omega), hk2, stb_nI (by omega) (by decide), bs_o (o' := 2) (by omega), bs_o (o' := 2) (by omega), bs_o (o' := 2) (by omega), hk2, stb_nI (by omega) (by decide), lt1_eq, bs_o (o' := 2) (by omega), bs_o (o' := 2) (by omega), bs_o (o' := 2) (by omega), bs_o (o' := 2) (by omega), hk2, k1, nI_add, hB1]
      rw [app, c2_eq, if_neg (show ¬ (1 : Int32) = 0 by decide), ld_nI (by omega) (by decide), e16j, nI_sub (by omega), stb_nI (by omega) (by decide), ld_nI (by omega) (by decide), e16b, nI_add, stb_nI (by omega) (by decide), hB2, ld_nI (by omega) (by decide), e17b, stb_nI (by omega) (by decide), hB3, ld_nI (by omega) (by decide), e17j, stb_nI (by omega) (by decide), hB4, ld_nI (by omega) (by decide), e18, nI_sub (by omega), p_setOffer (by omega) (by omega), c1_eq, hB5]
    · -- the model
      unfold FX6_agree FX6_agree_177
      have st0 : bs Z 1 3 (nI (k' + 1)) = bc Z 1 (upd (Z 1) 3 (nI (k' + 1))) := rfl
      rw [k3, ld_nI (by decide) (by decide), hk, k148, nI_add, ld_nI (by omega) (by decide), hp2, ld_nI (by decide) (by decide), hk, k1, nI_add, stb_nI (by decide) (by decide), st0, k196, nI_add, stb_nI (by omega) (by decide), bs_bc, k236, nI_add, stb_nI (by omega) (by decide), bs_bc, k276, nI_add, stb_nI (by omega) (by decide), bs_bc, k316, nI_add, stb_nI (by omega) (by decide), bs_bc, hz1, k52, nI_add, nI_add, ld_nI (by omega) (by decide), bc_at, D1 j hj, nI_sub (by omega), stb_nI (by omega) (by decide), bs_bc, ld_nI (by omega) (by decide), bc_at, upd_ne (f := z1) (j := 52 + b) (by omega), D1 b hb, nI_add, stb_nI (by omega) (by decide), bs_bc, hz2, k76, nI_add, nI_add, ld_nI (by omega) (by decide), bc_at, stb_nI (by omega) (by decide), bs_bc, hz3, ld_nI (by omega) (by decide), bc_at, stb_nI (by omega) (by decide), bs_bc, hz4, k124, nI_add, ld_nI (by omega) (by decide), bc_at]
      have e124 : z4 (124 + j) = nI h := by rw [z4l _ (by omega), z2l _ (by omega), z1l _ (by omega) (by omega)]; exact hh2
      rw [e124, nI_sub (by omega), stb_nI (by omega) (by decide), bs_bc, ld_nI (by omega) (by decide), bc_at, upd_at, if_nI0 (by omega), stb_nI (by omega) (by decide), stb_nI (by omega) (by decide), bs_bc, bs_bc, ← hz5]
      by_cases c : h - x = 0
      · rw [if_pos c, if_pos c]; rfl
      · rw [if_neg c, if_neg c]
    · rw [z5l _ (by omega), z4l _ (by omega), z2l _ (by omega), ← hz1]; (repeat (first | rw [upd_ne (by omega)] | rw [upd_at]))
    · rw [z5l _ (by omega), z4l _ (by omega), z2l _ (by omega), ← hz1]; (repeat (first | rw [upd_ne (by omega)] | rw [upd_at]))
    · rw [z5l _ (by omega), z4l _ (by omega), z2l _ (by omega), ← hz1]; (repeat (first | rw [upd_ne (by omega)] | rw [upd_at]))
    · rw [u1_ne c]
      by_cases c2 : t = j
      · subst c2; rw [u1_at]; omega
      · rw [u1_ne c2]
  · rw [if_pos (Int32.not_lt.mp c0)]
    have e : bc Z 1 (Z 1) = Z := bc_self Z 1
    exact ⟨B, Z 1, du, k', hh, rfl, rfl, Or.inl ⟨Int32.not_lt.mp c0, rfl⟩, by rw [e]; exact ⟨hR, hE, hA, hD⟩, rfl, hk, Or.inl ⟨rfl, rfl, rfl⟩⟩
theorem buy_full {P : PD} {E o du : Nat → Nat} {B Z : Blk} (h : TS P E o B Z du) {b j : Nat} (hb : b < pn P) (hj : j < pn P) (hf : B 2 0 = nI 40) : FX2_buyFrom B (nI j) (nI b) = some B := by
  obtain ⟨hR, hE, hA, hD⟩ := h
  have hn := hR.n
  have hr := hR.2.2.2.2.2.2.2
  obtain ⟨hr1, htk, -, hho, hpr, k', hk1, hk2, hk3, hk5⟩ := hr
  obtain ⟨j1, j2, j3, j4⟩ := htk j hj
  obtain ⟨b1, b2, b3, b4⟩ := htk b hb
  obtain ⟨h, hh1, hh2⟩ := hho j hj
  obtain ⟨p, hp1, hp2⟩ := hpr j hj
  rw [hh2] at j3
  rw [hp2] at j4
  have app : ∀ a b c d, FX0_append B a b c d = some (0, B) := fun a b c d => by
    unfold FX0_append
    rw [hf, if_neg (by decide)]
  have tail : ∀ hh, FX2_buyFrom_50 (nI j) (nI b) (nI p) hh B = some B := fun hh => by
    unfold FX2_buyFrom_50
    by_cases c : hh ≤ 0
    · rw [if_pos c]
    · rw [if_neg c, app, c2_eq, if_pos rfl]
  unfold FX2_buyFrom
  rw [ld_nI (by omega) (by decide), j4, p_lateOf hR hD hb, c1_eq, ld_nI (by omega) (by decide), j3, p_spareOf hR hD hj, c1_eq, lt1_eq, lt1_eq, if_nIle0 (by omega)]
  by_cases c : p = 0
  · rw [if_pos c, tail]
  · rw [if_neg c, ld_nI (by omega) (by decide), b2, nz_eq (fun q => c ((nI_eq (by omega) (by decide)).mp (by rw [q]; rfl))), lt1_eq, tail]
