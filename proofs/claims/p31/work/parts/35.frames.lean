/-! reckon where an order exists; the model's record; what a market's operation owes -/
theorem reck {P : PD} {dd E o : Nat → Nat} (hP : Pln P) {Z : Blk} (hz : ZPl (Z 1) P) (hh : Held Z P dd) (ho : Topo P o) (hE : Ends P dd E) : ∃ Z' : Blk, FX6_reckon Z = some (1, Z') ∧ (∀ q, q ≠ 7 → q ≠ 8 → Z' q = Z q) ∧ ∀ t, t < pn P → Z' 7 t = nI (E t - dd t) ∧ Z' 8 t = nI (E t) := by
  have hn := hP.1
  have hge : ∀ t, t < pn P → E t - dd t + dd t = E t := fun t ht => by have := hE t ht; omega
  have hx : ∀ x, x < pn P ∨ x = 99 → e0 (fun u => E u - dd u + dd u) x = e0 E x := by
    rintro x (hx | rfl)
    · unfold e0; rw [if_pos (by omega), if_pos (by omega)]; exact hge x hx
    · rfl
  have hT : ∀ t, t < pn P → E t - dd t = gs P dd (fun u => E u - dd u) t := by
    intro t ht
    unfold gs
    rw [hx _ (fr_or hn t), hx _ (pa_or hP ht)]
    have := hE t ht
    omega
  obtain ⟨Z', h1, h2⟩ := r_reckon hP hz hh
  refine ⟨Z', ?_⟩
  rcases h2 with ⟨h2, S, h3, h4⟩ | ⟨h2, h3⟩
  · refine ⟨h2, h1, fun t ht => ?_⟩
    have hS : Ends P dd (fun u => S u + dd u) := fun u hu => by
      show S u + dd u = gs P dd S u + dd u
      rw [← h3 u hu]
    have e := ends_uniq ho hE hS t ht
    obtain ⟨a, b⟩ := h4 t ht
    rw [e]
    exact ⟨by rw [a]; congr 1; show S t = S t + dd t - dd t; omega, b⟩
  · exact absurd (h3 o _ ho hT) (fun q => q)
theorem held_none {Z : Blk} {P : PD} (hP : Pln P) (h : Z 0 11 = (-6 : Int32)) : Held Z P (pd P) := fun t ht => ⟨0, by rw [h, if_neg (m6_ne (by have := hP.1; omega))]; rfl, rfl, by omega⟩
/-- all but the row z, the work rows and the spare -/
def Fz (Z Z' : Blk) : Prop := Z' 0 = Z 0 ∧ Z' 2 = Z 2 ∧ Z' 3 = Z 3 ∧ Z' 4 = Z 4 ∧ Z' 6 = Z 6 ∧ Z' 11 = Z 11
theorem Fz.refl (Z : Blk) : Fz Z Z := ⟨rfl, rfl, rfl, rfl, rfl, rfl⟩
theorem Fz.trans {Z1 Z2 Z3 : Blk} (h : Fz Z1 Z2) (g : Fz Z2 Z3) : Fz Z1 Z3 := ⟨g.1.trans h.1, g.2.1.trans h.2.1, g.2.2.1.trans h.2.2.1, g.2.2.2.1.trans h.2.2.2.1, g.2.2.2.2.1.trans h.2.2.2.2.1, g.2.2.2.2.2.trans h.2.2.2.2.2⟩
theorem Fz.bs {Z : Blk} {o k : Nat} {v : Int32} (h : o = 1 ∨ o = 5 ∨ o = 7 ∨ o = 8 ∨ o = 9 ∨ o = 10) : Fz Z (bs Z o k v) := by
  refine ⟨bs_o ?_, bs_o ?_, bs_o ?_, bs_o ?_, bs_o ?_, bs_o ?_⟩ <;> omega
theorem Fz.of78 {Z Z' : Blk} (h : ∀ q, q ≠ 7 → q ≠ 8 → Z' q = Z q) : Fz Z Z' := ⟨h 0 (by omega) (by omega), h 2 (by omega) (by omega), h 3 (by omega) (by omega), h 4 (by omega) (by omega), h 6 (by omega) (by omega), h 11 (by omega) (by omega)⟩
/-- a row z0 is pushed on the past, unless the model is quiet -/
def Pushed (Z Z' : Blk) (z0 : Nat → Int32) : Prop := (∀ j, j ≠ 5 → Z' 0 j = Z 0 j) ∧ ((Z 0 6 = 1 ∧ Z' 0 = Z 0 ∧ Z' 2 = Z 2) ∨ (Z 0 6 = 0 ∧ ∃ k, Z 0 5 = nI k ∧ ((k < 6 ∧ Z' 0 5 = nI (k + 1) ∧ (∀ x, x < 356 → Z' 2 (356 * k + x) = z0 x) ∧ ∀ i, i < 356 * k → Z' 2 i = Z 2 i) ∨ (k = 6 ∧ Z' 0 5 = nI 6 ∧ (∀ x, x < 356 → Z' 2 (1780 + x) = z0 x) ∧ ∀ i, i < 1780 → Z' 2 i = Z 2 (i + 356)))))
def QH (Z : Blk) : Prop := Z 0 6 = 1 ∨ (Z 0 6 = 0 ∧ ∃ k, k ≤ 6 ∧ Z 0 5 = nI k)
theorem Pushed.cg {Z1 Z Z' Z'' : Blk} {z0 : Nat → Int32} (h : Pushed Z1 Z' z0) (h0 : Z1 0 = Z 0) (h2 : Z1 2 = Z 2) (h0' : Z'' 0 = Z' 0) (h2' : Z'' 2 = Z' 2) : Pushed Z Z'' z0 := by
  unfold Pushed at h ⊢
  rw [h0', h2', ← h0, ← h2]
  exact h
theorem QH.cg {Z1 Z : Blk} (h : QH Z) (h0 : Z1 0 = Z 0) : QH Z1 := by
  unfold QH at h ⊢
  rw [h0]
  exact h
theorem bs_bc {Z : Blk} {o k : Nat} {f : Nat → Int32} {v : Int32} : bs (bc Z o f) o k v = bc Z o (upd f k v) := by
  funext o'
  by_cases h : o' = o
  · subst h
    rw [bs_at, bc_at, bc_at]
  · rw [bs_o h, bc_ne h, bc_ne h]
theorem bc_self (Z : Blk) (o : Nat) : bc Z o (Z o) = Z := by
  funext o'
  by_cases h : o' = o
  · subst h; rw [bc_at]
  · rw [bc_ne h]
def pushF (p z : Nat → Int32) (k i : Nat) : Nat → Int32 := fun j => if 356 * k ≤ j ∧ j < 356 * k + i then z (j - 356 * k) else p j
def shiftF (p : Nat → Int32) (i : Nat) : Nat → Int32 := fun j => if j < i then p (j + 356) else p j
theorem k1780 : (1780 : Int32) = nI 1780 := rfl
theorem rec60 {Z : Blk} {k : Nat} (hk : k ≤ 5) (h5 : Z 0 5 = nI k) : FX6_record_60 fu (0 : Int32) Z = some (bs (bc Z 2 (pushF (Z 2) (Z 1) k 356)) 0 5 (nI (k + 1))) := by
  have key : ∀ d i fuel, i + d = 356 → d < fuel → FX6_record_60 fuel (nI i) (bc Z 2 (pushF (Z 2) (Z 1) k i)) = some (bs (bc Z 2 (pushF (Z 2) (Z 1) k 356)) 0 5 (nI (k + 1))) := by
    intro d
    induction d with
    | zero =>
      intro i fuel hi hf
      obtain ⟨q, rfl⟩ : ∃ q, fuel = q + 1 := ⟨fuel - 1, by omega⟩
      have e : i = 356 := by omega
      subst e
      show FX6_record_60s _ _ _ = _
      unfold FX6_record_60s
      rw [k356, le_nI (by omega) (by omega), if_pos (by omega), lt1_eq, bc_ne (by omega), h5, k1, nI_add]
    | succ d ih =>
      intro i fuel hi hf
      obtain ⟨q, rfl⟩ : ∃ q, fuel = q + 1 := ⟨fuel - 1, by omega⟩
      show FX6_record_60s _ _ _ = _
      unfold FX6_record_60s
      rw [k356, le_nI (by omega) (by omega), if_neg (by omega), bc_ne (by omega), ld_nI (by omega) (by decide), bc_ne (by omega), h5, pk_mul, nI_add, stb_nI (by omega) (by decide), lt1_eq, k1, nI_add, bs_bc]
      have e : upd (pushF (Z 2) (Z 1) k i) (k * 356 + i) (Z 1 i) = pushF (Z 2) (Z 1) k (i + 1) := by
        funext j
        unfold upd pushF
        by_cases c : j = k * 356 + i
        · rw [if_pos c, if_pos (by omega)]
          congr 1
          omega
        · rw [if_neg c]
          by_cases c2 : 356 * k ≤ j ∧ j < 356 * k + i
          · rw [if_pos c2, if_pos (by omega)]
          · rw [if_neg c2, if_neg (by omega)]
      rw [e]
      exact ih (i + 1) q (by omega) (by omega)
  have e : pushF (Z 2) (Z 1) k 0 = Z 2 := by
    funext j
    unfold pushF
    rw [if_neg (by omega)]
  have := key 356 0 fu (by omega) (fu_gt (by omega))
  rw [e, bc_self] at this
  exact this
theorem rec19 {Z : Blk} (h5 : Z 0 5 = nI 6) : FX6_record_19 fu (0 : Int32) Z = FX6_record_60 fu (0 : Int32) (bs (bc Z 2 (shiftF (Z 2) 1780)) 0 5 (nI 5)) := by
  have key : ∀ d i fuel, i + d = 1780 → d < fuel → FX6_record_19 fuel (nI i) (bc Z 2 (shiftF (Z 2) i)) = FX6_record_60 fu (0 : Int32) (bs (bc Z 2 (shiftF (Z 2) 1780)) 0 5 (nI 5)) := by
    intro d
    induction d with
    | zero =>
      intro i fuel hi hf
      obtain ⟨q, rfl⟩ : ∃ q, fuel = q + 1 := ⟨fuel - 1, by omega⟩
      have e : i = 1780 := by omega
      subst e
      show FX6_record_19s _ _ _ = _
      unfold FX6_record_19s
      rw [k1780, le_nI (by omega) (by omega), if_pos (by omega), lt1_eq, bc_ne (by omega), h5]
      rfl
    | succ d ih =>
      intro i fuel hi hf
      obtain ⟨q, rfl⟩ : ∃ q, fuel = q + 1 := ⟨fuel - 1, by omega⟩
      show FX6_record_19s _ _ _ = _
      unfold FX6_record_19s
      rw [k1780, le_nI (by omega) (by omega), if_neg (by omega), k356, nI_add, ld_nI (by omega) (by decide), stb_nI (by omega) (by decide), lt1_eq, k1, nI_add, bc_at, bs_bc]
      have e : upd (shiftF (Z 2) i) i (shiftF (Z 2) i (i + 356)) = shiftF (Z 2) (i + 1) := by
        funext j
        unfold upd shiftF
        by_cases c : j = i
        · rw [if_pos c, if_neg (by omega), if_pos (by omega), c]
        · rw [if_neg c]
          by_cases c2 : j < i
          · rw [if_pos c2, if_pos (by omega)]
          · rw [if_neg c2, if_neg (by omega)]
      rw [e]
      exact ih (i + 1) q (by omega) (by omega)
  have e : shiftF (Z 2) 0 = Z 2 := by
    funext j
    unfold shiftF
    rw [if_neg (by omega)]
  have := key 1780 0 fu (by omega) (fu_gt (by omega))
  rw [e, bc_self] at this
  exact this
theorem q_record {Z : Blk} (h : QH Z) : ∃ ZR : Blk, FX6_record Z = some ZR ∧ Pushed Z ZR (Z 1) ∧ ∀ o, o ≠ 0 → o ≠ 2 → ZR o = Z o := by
  unfold FX6_record
  rcases h with h6 | ⟨h6, k, hk, h5⟩
  · rw [h6, if_neg (by decide)]
    exact ⟨Z, rfl, ⟨fun _ _ => rfl, Or.inl ⟨h6, rfl, rfl⟩⟩, fun _ _ _ => rfl⟩
  · rw [h6, if_pos rfl, h5, k6, eq_nI (by omega) (by omega)]
    by_cases c : k = 6
    · subst c
      rw [if_pos rfl, rec19 h5, rec60 (k := 5) (by omega) (by rw [bs_r, if_pos ⟨rfl, rfl⟩])]
      refine ⟨_, rfl, ⟨fun j hj => ?_, Or.inr ⟨h6, 6, h5, Or.inr ⟨rfl, ?_, fun x hx => ?_, fun i hi => ?_⟩⟩⟩, fun o h0 h2 => ?_⟩
      · rw [bs_r, if_neg (fun q => hj q.2), bc_ne (by omega), bs_r, if_neg (fun q => hj q.2), bc_ne (by omega)]
      · rw [bs_r, if_pos ⟨rfl, rfl⟩]
      · rw [bs_o (by omega), bc_at]
        unfold pushF
        rw [if_pos (by omega), bs_o (by omega), bc_ne (by omega), show 1780 + x - 356 * 5 = x by omega]
      · rw [bs_o (by omega), bc_at]
        unfold pushF
        rw [if_neg (by omega), bs_o (by omega), bc_at]
        unfold shiftF
        rw [if_pos hi]
      · rw [bs_o h0, bc_ne h2, bs_o h0, bc_ne h2]
    · rw [if_neg c, rec60 (k := k) (by omega) h5]
      refine ⟨_, rfl, ⟨fun j hj => ?_, Or.inr ⟨h6, k, h5, Or.inl ⟨by omega, ?_, fun x hx => ?_, fun i hi => ?_⟩⟩⟩, fun o h0 h2 => ?_⟩
      · rw [bs_r, if_neg (fun q => hj q.2), bc_ne (by omega)]
      · rw [bs_r, if_pos ⟨rfl, rfl⟩]
      · rw [bs_o (by omega), bc_at]
        unfold pushF
        rw [if_pos (by omega), show 356 * k + x - 356 * k = x by omega]
      · rw [bs_o (by omega), bc_at]
        unfold pushF
        rw [if_neg (by omega)]
      · rw [bs_o h0, bc_ne h2]
/-- what an operation of a market leaves of the model's rest -/
def Keep (Z Z' : Blk) : Prop := Z' 3 = Z 3 ∧ Z' 4 = Z 4 ∧ Z' 6 = Z 6 ∧ Z' 11 = Z 11
def Idle (Z : Blk) : Prop := Z 0 11 = (-6 : Int32) ∧ Z 0 12 = 0
/-- a market's operation, of the class and of the model -/
def MOp (fc fm : Blk → Option (Int32 × Blk)) : Prop := ∀ (B Z : Blk), Rel B (Z 1) → Idle Z → QH Z →
  ∃ (r : Int32) (B' Z' : Blk), fc B = some (r, B') ∧ fm Z = some (r, Z') ∧ Rel B' (Z' 1) ∧ Keep Z Z' ∧ ((r < 0 ∧ Z' 0 = Z 0 ∧ Z' 2 = Z 2) ∨ (¬ r < 0 ∧ ∃ z0, Rel B z0 ∧ Pushed Z Z' z0))
/-- no change: an error -/
theorem MOp_err {B Z : Blk} (h : Rel B (Z 1)) {r : Int32} (hr : r < 0) {x y : Option (Int32 × Blk)} (hx : x = some (r, B)) (hy : y = some (r, Z)) : ∃ (r : Int32) (B' Z' : Blk), x = some (r, B') ∧ y = some (r, Z') ∧ Rel B' (Z' 1) ∧ Keep Z Z' ∧ ((r < 0 ∧ Z' 0 = Z 0 ∧ Z' 2 = Z 2) ∨ (¬ r < 0 ∧ ∃ z0, Rel B z0 ∧ Pushed Z Z' z0)) :=
  ⟨r, B, Z, hx, hy, h, ⟨rfl, rfl, rfl, rfl⟩, Or.inl ⟨hr, rfl, rfl⟩⟩
/-- in: of arguments -/
theorem q_in (x a b : Int32) : FX6_in x a b = some (if a ≤ x ∧ x ≤ b then 1 else 0) := by
  unfold FX6_in
  by_cases h1 : x < a
  · rw [if_pos h1, if_neg (fun q => absurd q.1 (Int32.not_le.mpr h1))]
  · by_cases h2 : b < x
    · rw [if_neg h1, if_pos h2, if_neg (fun q => absurd q.2 (Int32.not_le.mpr h2))]
    · rw [if_neg h1, if_neg h2, if_pos ⟨Int32.not_lt.mp h1, Int32.not_lt.mp h2⟩]
/-- a number between two -/
theorem nI_btw {x : Int32} {a b : Nat} (hb : b < 2 ^ 31) (h1 : nI a ≤ x) (h2 : x ≤ nI b) (ha : a < 2 ^ 31) : ∃ k, a ≤ k ∧ k ≤ b ∧ x = nI k := by
  have h0 : ¬ x < 0 := fun q => by
    have e1 := Int32.lt_iff_toInt_lt.mp q
    have e2 := Int32.le_iff_toInt_le.mp h1
    rw [nI_toInt ha] at e2
    rw [show (0 : Int32).toInt = 0 from rfl] at e1
    omega
  obtain ⟨k, hk, rfl⟩ := nI_of h0
  exact ⟨k, (nI_leI ha hk).mp h1, (nI_leI hk hb).mp h2, rfl⟩
theorem RelP.n {B : Blk} {z : Nat → Int32} {P : PD} {E o : Nat → Nat} (h : RelP B z P E o) : pn P ≤ 24 := h.1.1
theorem RelP.E_le {B : Blk} {z : Nat → Int32} {P : PD} {E o : Nat → Nat} (h : RelP B z P E o) {t : Nat} (ht : t < pn P) : E t ≤ 2400 := ends_bound h.1.1 h.2.2.2.2.1 h.2.2.2.1 (fun u hu => (h.1.2.1 u hu).2.2.1) ht
/-- Rest looks at places 0, 2 and 12 to 19 of B only, at z beyond the plan -/
theorem Rest_frame {B B' : Blk} {z z' : Nat → Int32} {n : Nat} (h : Rest B z n) (h0 : B' 0 2 = B 0 2) (h1 : B' 0 3 = B 0 3) (h2 : B' 2 0 = B 2 0) (hb : ∀ o, 12 ≤ o → o ≤ 19 → B' o = B o) (z1 : z' 1 = z 1) (z2 : z' 2 = z 2) (z3 : z' 3 = z 3) (hz : ∀ k, (52 ≤ k ∧ k < 100) ∨ (124 ≤ k ∧ k < 172) ∨ (196 ≤ k ∧ k < 356) → z' k = z k) (hn : n ≤ 24) : Rest B' z' n := by
  obtain ⟨⟨a1, a2, a3, a4⟩, b, ⟨du, d1, d2⟩, e, f, k, k1, k2, k3, k4⟩ := h
  refine ⟨⟨by rw [h0, z1]; exact a1, by rw [h1, z2]; exact a2, by rw [z1]; exact a3, by rw [z2]; exact a4⟩, fun t ht => ?_, ⟨du, fun t ht => by rw [hz _ (by omega)]; exact d1 t ht, d2⟩, fun t ht => by rw [hz _ (by omega)]; exact e t ht, fun t ht => by rw [hz _ (by omega)]; exact f t ht, k, k1, by rw [h2]; exact k2, by rw [z3]; exact k3, fun c hc => ?_⟩
  · rw [hb 16 (by omega) (by omega), hb 17 (by omega) (by omega), hb 18 (by omega) (by omega), hb 19 (by omega) (by omega), hz _ (by omega), hz _ (by omega), hz _ (by omega), hz _ (by omega)]
    exact b t ht
  · rw [hb 12 (by omega) (by omega), hb 13 (by omega) (by omega), hb 14 (by omega) (by omega), hb 15 (by omega) (by omega), hz _ (by omega), hz _ (by omega), hz _ (by omega), hz _ (by omega)]
    exact k4 c hc
