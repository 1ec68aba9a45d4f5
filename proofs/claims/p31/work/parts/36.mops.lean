/-! market's operations that leave the plan as it is: set, offer, give -/
theorem cin1 {α : Type} {x a b : Int32} {X Y : α} : (if x < a then X else if b < x then X else Y) = if a ≤ x ∧ x ≤ b then Y else X := by
  by_cases h1 : x < a
  · rw [if_pos h1, if_neg (fun q => absurd q.1 (Int32.not_le.mpr h1))]
  · by_cases h2 : b < x
    · rw [if_neg h1, if_pos h2, if_neg (fun q => absurd q.2 (Int32.not_le.mpr h2))]
    · rw [if_neg h1, if_neg h2, if_pos ⟨Int32.not_lt.mp h1, Int32.not_lt.mp h2⟩]
theorem cin2 {α : Type} {x a b : Int32} {X Y : α} : (if x < a then X else if x ≤ b then Y else X) = if a ≤ x ∧ x ≤ b then Y else X := by
  by_cases h1 : x < a
  · rw [if_pos h1, if_neg (fun q => absurd q.1 (Int32.not_le.mpr h1))]
  · by_cases h2 : x ≤ b
    · rw [if_neg h1, if_pos h2, if_pos ⟨Int32.not_lt.mp h1, h2⟩]
    · rw [if_neg h1, if_neg h2, if_neg (fun q => h2 q.2)]
theorem nI_subI {a b : Nat} (ha : a < 2 ^ 31) (hb : b < 2 ^ 31) : (nI a - nI b).toInt = (a : Int) - b := by
  rw [Int32.toInt_sub, nI_toInt ha, nI_toInt hb]
  exact Int.bmod_eq_of_le (by omega) (by omega)
theorem nI_sub {a b : Nat} (h : b ≤ a) : nI a - nI b = nI (a - b) := by
  have : nI a = nI (a - b) + nI b := by rw [nI_add, Nat.sub_add_cancel h]
  rw [this, Int32.add_sub_cancel]
theorem nI_subneg {a b : Nat} (h : a < b) (hb : b < 2 ^ 31) : nI a - nI b < 0 := by
  rw [Int32.lt_iff_toInt_lt, nI_subI (by omega) hb, show (0 : Int32).toInt = 0 from rfl]
  omega
theorem upd_at {f : Nat → Int32} {k : Nat} {v : Int32} : upd f k v k = v := if_pos rfl
theorem upd_ne {f : Nat → Int32} {k j : Nat} {v : Int32} (h : j ≠ k) : upd f k v j = f j := if_neg h
theorem RelP_rest {B B' : Blk} {z z' : Nat → Int32} {P : PD} {E o : Nat → Nat} (h : RelP B z P E o) (hb : ∀ q, q = 1 ∨ (3 ≤ q ∧ q ≤ 9) → B' q = B q) (hz : ∀ k, k = 0 ∨ (4 ≤ k ∧ k < 52) ∨ (100 ≤ k ∧ k < 124) ∨ (172 ≤ k ∧ k < 196) → z' k = z k) (hr : Rest B' z' (pn P)) : RelP B' z' P E o := by
  obtain ⟨h1, h2, h3, h4, h5, h6, h7, -⟩ := h
  have hn := h1.1
  refine ⟨h1, ⟨by rw [hz 0 (by omega)]; exact h2.1, fun t ht => ?_⟩, ?_, h4, h5, fun t ht => by rw [hb 6 (by omega)]; exact h6 t ht, fun i hi => by rw [hb 7 (by omega)]; exact h7 i hi, hr⟩
  · rw [hz _ (by omega), hz _ (by omega), hz _ (by omega), hz _ (by omega)]
    exact h2.2 t ht
  · unfold BPl
    rw [hb 1 (by omega), hb 3 (by omega), hb 4 (by omega), hb 5 (by omega), hb 8 (by omega), hb 9 (by omega)]
    exact h3
theorem MOp_ok {B Z ZR Z' B' : Blk} {r : Int32} (h : Rel B (Z 1)) (hp : Pushed Z ZR (Z 1)) (hk : ∀ o, o ≠ 0 → o ≠ 2 → ZR o = Z o) (hF : Fz ZR Z') (hr : ¬ r < 0) (h' : Rel B' (Z' 1)) {x y : Option (Int32 × Blk)} (hx : x = some (r, B')) (hy : y = some (r, Z')) : ∃ (r : Int32) (B' Z' : Blk), x = some (r, B') ∧ y = some (r, Z') ∧ Rel B' (Z' 1) ∧ Keep Z Z' ∧ ((r < 0 ∧ Z' 0 = Z 0 ∧ Z' 2 = Z 2) ∨ (¬ r < 0 ∧ ∃ z0, Rel B z0 ∧ Pushed Z Z' z0)) :=
  ⟨r, B', Z', hx, hy, h', ⟨hF.2.2.1.trans (hk 3 (by decide) (by decide)), hF.2.2.2.1.trans (hk 4 (by decide) (by decide)), hF.2.2.2.2.1.trans (hk 6 (by decide) (by decide)), hF.2.2.2.2.2.trans (hk 11 (by decide) (by decide))⟩, Or.inr ⟨hr, Z 1, h, hp.cg rfl rfl hF.1 hF.2.1⟩⟩
/-- the tasks' own numbers change -/
theorem Rest_tasks {B B' : Blk} {z z' : Nat → Int32} {n : Nat} (h : Rest B z n) (hb : ∀ q, q = 0 ∨ q = 2 ∨ (12 ≤ q ∧ q ≤ 15) → B' q = B q) (hz : ∀ k, (1 ≤ k ∧ k ≤ 3) ∨ (196 ≤ k ∧ k < 356) → z' k = z k) (ht : ∀ t, t < n → B' 16 t = z' (52 + t) ∧ B' 17 t = z' (76 + t) ∧ B' 18 t = z' (124 + t) ∧ B' 19 t = z' (148 + t)) (hd : ∃ du : Nat → Nat, (∀ t, t < n → z' (52 + t) = nI (du t)) ∧ sumN du n ≤ 3000 * n) (hh : ∀ t, t < n → ∃ h, h ≤ 500 ∧ z' (124 + t) = nI h) (hp : ∀ t, t < n → ∃ p, p ≤ 1000 ∧ z' (148 + t) = nI p) : Rest B' z' n := by
  obtain ⟨⟨a1, a2, a3, a4⟩, -, -, -, -, k, k1, k2, k3, k4⟩ := h
  refine ⟨⟨by rw [hb 0 (by omega), hz 1 (by omega)]; exact a1, by rw [hb 0 (by omega), hz 2 (by omega)]; exact a2, by rw [hz 1 (by omega)]; exact a3, by rw [hz 2 (by omega)]; exact a4⟩, ht, hd, hh, hp, k, k1, by rw [hb 2 (by omega)]; exact k2, by rw [hz 3 (by omega)]; exact k3, fun c hc => ?_⟩
  rw [hb 12 (by omega), hb 13 (by omega), hb 14 (by omega), hb 15 (by omega), hz _ (by omega), hz _ (by omega), hz _ (by omega), hz _ (by omega)]
  exact k4 c hc
theorem Rest_set1 {B : Blk} {z : Nat → Int32} {n k : Nat} (h : Rest B z n) (hn : n ≤ 24) (hk : k ≤ 100) : Rest (bs B 0 2 (nI k)) (upd z 1 (nI k)) n := by
  obtain ⟨⟨a1, a2, a3, a4⟩, b, d, e, f, c, c1, c2, c3, c4⟩ := h
  refine ⟨⟨by rw [bs_r, if_pos ⟨rfl, rfl⟩, upd_at], by rw [bs_r, if_neg (by omega), upd_ne (by omega)]; exact a2, ⟨k, hk, upd_at⟩, by rw [upd_ne (by omega)]; exact a4⟩, ?_, ?_, ?_, ?_, c, c1, by rw [bs_o (by omega)]; exact c2, by rw [upd_ne (by omega)]; exact c3, fun i hi => ?_⟩
  · intro t ht; rw [bs_o (by omega), bs_o (by omega), bs_o (by omega), bs_o (by omega), upd_ne (by omega), upd_ne (by omega), upd_ne (by omega), upd_ne (by omega)]; exact b t ht
  · obtain ⟨du, d1, d2⟩ := d
    exact ⟨du, fun t ht => by rw [upd_ne (by omega)]; exact d1 t ht, d2⟩
  · intro t ht; rw [upd_ne (by omega)]; exact e t ht
  · intro t ht; rw [upd_ne (by omega)]; exact f t ht
  · rw [bs_o (by omega), bs_o (by omega), bs_o (by omega), bs_o (by omega), upd_ne (by omega), upd_ne (by omega), upd_ne (by omega), upd_ne (by omega)]; exact c4 i hi
theorem Rest_set2 {B : Blk} {z : Nat → Int32} {n k : Nat} (h : Rest B z n) (hn : n ≤ 24) (hk0 : 1 ≤ k) (hk : k ≤ 9) : Rest (bs B 0 3 (nI k)) (upd z 2 (nI k)) n := by
  obtain ⟨⟨a1, a2, a3, a4⟩, b, d, e, f, c, c1, c2, c3, c4⟩ := h
  refine ⟨⟨by rw [bs_r, if_neg (by omega), upd_ne (by omega)]; exact a1, by rw [bs_r, if_pos ⟨rfl, rfl⟩, upd_at], by rw [upd_ne (by omega)]; exact a3, ⟨k, hk0, hk, upd_at⟩⟩, ?_, ?_, ?_, ?_, c, c1, by rw [bs_o (by omega)]; exact c2, by rw [upd_ne (by omega)]; exact c3, fun i hi => ?_⟩
  · intro t ht; rw [bs_o (by omega), bs_o (by omega), bs_o (by omega), bs_o (by omega), upd_ne (by omega), upd_ne (by omega), upd_ne (by omega), upd_ne (by omega)]; exact b t ht
  · obtain ⟨du, d1, d2⟩ := d
    exact ⟨du, fun t ht => by rw [upd_ne (by omega)]; exact d1 t ht, d2⟩
  · intro t ht; rw [upd_ne (by omega)]; exact e t ht
  · intro t ht; rw [upd_ne (by omega)]; exact f t ht
  · rw [bs_o (by omega), bs_o (by omega), bs_o (by omega), bs_o (by omega), upd_ne (by omega), upd_ne (by omega), upd_ne (by omega), upd_ne (by omega)]; exact c4 i hi
theorem b1_eq {B : Blk} {o k : Nat} {v : Int32} : bs B o k v o = upd (B o) k v := bs_at
theorem set_ok {B Z : Blk} {a v : Int32} {i k lo hi : Nat} (h : Rel B (Z 1)) (hq : QH Z) (e : a = nI i) (hi2 : i < 2) (hv : v = nI k)
    (hr : (if i = 0 then 0 else 1) ≤ k ∧ k ≤ (if i = 0 then 100 else 9)) {x : Option (Int32 × Blk)} (hx : x = some (B 0 (2 + i), bs B 0 (2 + i) v)) {y : Option (Int32 × Blk)} (hy : y = FX6_set_29 a v Z) : ∃ (r : Int32) (B' Z' : Blk), x = some (r, B') ∧ y = some (r, Z') ∧ Rel B' (Z' 1) ∧ Keep Z Z' ∧ ((r < 0 ∧ Z' 0 = Z 0 ∧ Z' 2 = Z 2) ∨ (¬ r < 0 ∧ ∃ z0, Rel B z0 ∧ Pushed Z Z' z0)) := by
  obtain ⟨ZR, hR, hp, hk⟩ := q_record hq
  have hZ1 : ZR 1 = Z 1 := hk 1 (by decide) (by decide)
  have h0 := h
  obtain ⟨P, E, o, hRP⟩ := h
  have hn := hRP.n
  obtain ⟨⟨a1, a2, ⟨w1, a3, a3'⟩, ⟨w2, a4, a4', a4''⟩⟩, -⟩ := hRP.2.2.2.2.2.2.2
  subst e hv
  have hz : B 0 (2 + i) = Z 1 (1 + i) ∧ ¬ Z 1 (1 + i) < 0 := by
    have : i = 0 ∨ i = 1 := by omega
    rcases this with rfl | rfl
    · exact ⟨a1, by rw [a3']; exact nneg (by omega)⟩
    · exact ⟨a2, by rw [a4'']; exact nneg (by omega)⟩
  refine MOp_ok h0 hp hk (Fz.bs (Or.inl rfl)) (r := Z 1 (1 + i)) (B' := bs B 0 (2 + i) (nI k)) (Z' := bs ZR 1 (1 + i) (nI k)) hz.2 ⟨P, E, o, ?_⟩ (by rw [hx, hz.1]) ?_
  · rw [b1_eq, hZ1]
    have : i = 0 ∨ i = 1 := by omega
    rcases this with rfl | rfl
    · refine RelP_rest hRP (fun q hq => bs_o (by omega)) (fun q hq => upd_ne (by omega)) (Rest_set1 hRP.2.2.2.2.2.2.2 hn hr.2)
    · refine RelP_rest hRP (fun q hq => bs_o (by omega)) (fun q hq => upd_ne (by omega)) (Rest_set2 hRP.2.2.2.2.2.2.2 hn hr.1 hr.2)
  · rw [hy]
    unfold FX6_set_29 FX6_set_34
    rw [if_neg (show ¬ (1 : Int32) = 0 by decide), hR, c1_eq, k1, nI_add, ld_nI (by omega) (by decide), stb_nI (by omega) (by decide), hZ1]
theorem m_set (a v : Int32) : MOp (fun B => FX2_changeSetting B a v) (fun Z => FX6_set Z a v) := by
  intro B Z h hi hq
  show ∃ (r : Int32) (B' Z' : Blk), FX2_changeSetting B a v = some (r, B') ∧ FX6_set Z a v = some (r, Z') ∧ _
  unfold FX2_changeSetting FX6_set
  rw [cin1, q_in, c1_eq, ite_bool]
  unfold FX2_changeSetting_27 FX6_set_14
  rw [cin1, q_in, c1_eq, ite_bool]
  have e33 : FX6_set_33 a v Z = some (-2, Z) := by
    unfold FX6_set_33 FX6_set_34
    rw [if_pos rfl]
  rw [e33]
  by_cases c0 : a = 0
  · rw [if_pos c0, if_pos c0]
    by_cases c1 : 0 ≤ v ∧ v ≤ 100
    · rw [if_pos c1, if_pos c1]
      obtain ⟨k, hk1, hk2, hk3⟩ := nI_btw (a := 0) (b := 100) (by decide) c1.1 c1.2 (by decide)
      exact set_ok (i := 0) (k := k) (lo := 0) (hi := 0) h hq c0 (by omega) hk3 (by simp only [if_true]; omega) rfl rfl
    · rw [if_neg c1, if_neg c1, if_neg (by rw [c0]; decide), if_neg (by rw [c0]; decide)]
      exact MOp_err h (by decide) rfl rfl
  · rw [if_neg c0, if_neg c0]
    by_cases c1 : a = 1
    · rw [if_pos c1, if_pos c1]
      by_cases c2 : 1 ≤ v ∧ v ≤ 9
      · rw [if_pos c2, if_pos c2]
        obtain ⟨k, hk1, hk2, hk3⟩ := nI_btw (a := 1) (b := 9) (by decide) c2.1 c2.2 (by decide)
        exact set_ok (i := 1) (k := k) (lo := 0) (hi := 0) h hq c1 (by omega) hk3 ⟨hk1, hk2⟩ rfl rfl
      · rw [if_neg c2, if_neg c2]
        exact MOp_err h (by decide) rfl rfl
    · rw [if_neg c1, if_neg c1]
      exact MOp_err h (by decide) rfl rfl
