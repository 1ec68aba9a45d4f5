/-! reckon where an order exists; the model's record; what a market's operation owes -/
theorem reck {P : PD} {dd E o : Nat → Nat} (hP : Pln P) {Z : Blk} (hz : ZPl (Z 1) P) (hh : Held Z P dd) (ho : Topo P o) (hE : Ends P dd E) : ∃ Z' : Blk, FX6_reckon Z = some (1, Z') ∧ (∀ q, q ≠ 7 → q ≠ 8 → Z' q = Z q) ∧ ∀ t, t < pn P → Z' 7 t = nI (E t - dd t) ∧ Z' 8 t = nI (E t) := by
  have hn := hP.1
  have hge : ∀ t, t < pn P → E t - dd t + dd t = E t := fun t ht => by have := hE t ht; omega
  have hx : ∀ x, x < pn P ∨ x = 99 → e0 (fun u => E u - dd u + dd u) x = e0 E x := by
    rintro x (hx | rfl)
    · unfold e0; rw [if_pos (by omega), if_pos (by omega)]; exact hge x hx
    · rfl
  have hT : ∀ t, t < pn P → E t - dd t = gs P dd (fun u => E u - dd u) t := by
    intro t ht
    unfold gs
    rw [hx _ (fr_or hn t), hx _ (pa_or hP ht)]
    have := hE t ht
    omega
  obtain ⟨Z', h1, h2⟩ := r_reckon hP hz hh
  refine ⟨Z', ?_⟩
  rcases h2 with ⟨h2, S, h3, h4⟩ | ⟨h2, h3⟩
  · refine ⟨h2, h1, fun t ht => ?_⟩
    have hS : Ends P dd (fun u => S u + dd u) := fun u hu => by
      show S u + dd u = gs P dd S u + dd u
      rw [← h3 u hu]
    have e := ends_uniq ho hE hS t ht
    obtain ⟨a, b⟩ := h4 t ht
    rw [e]
    exact ⟨by rw [a]; congr 1; show S t = S t + dd t - dd t; omega, b⟩
  · exact absurd (h3 o _ ho hT) (fun q => q)
theorem held_none {Z : Blk} {P : PD} (hP : Pln P) (h : Z 0 11 = (-6 : Int32)) : Held Z P (pd P) := fun t ht => ⟨0, by rw [h, if_neg (m6_ne (by have := hP.1; omega))]; rfl, rfl, by omega⟩
/-- all but the row z, the work rows and the spare -/
def Fz (Z Z' : Blk) : Prop := Z' 0 = Z 0 ∧ Z' 2 = Z 2 ∧ Z' 3 = Z 3 ∧ Z' 4 = Z 4 ∧ Z' 6 = Z 6 ∧ Z' 11 = Z 11
theorem Fz.refl (Z : Blk) : Fz Z Z := ⟨rfl, rfl, rfl, rfl, rfl, rfl⟩
theorem Fz.trans {Z1 Z2 Z3 : Blk} (h : Fz Z1 Z2) (g : Fz Z2 Z3) : Fz Z1 Z3 := ⟨g.1.trans h.1, g.2.1.trans h.2.1, g.2.2.1.trans h.2.2.1, g.2.2.2.1.trans h.2.2.2.1, g.2.2.2.2.1.trans h.2.2.2.2.1, g.2.2.2.2.2.trans h.2.2.2.2.2⟩
theorem Fz.bs {Z : Blk} {o k : Nat} {v : Int32} (h : o = 1 ∨ o = 5 ∨ o = 7 ∨ o = 8 ∨ o = 9 ∨ o = 10) : Fz Z (bs Z o k v) := by
  refine ⟨bs_o ?_, bs_o ?_, bs_o ?_, bs_o ?_, bs_o ?_, bs_o ?_⟩ <;> omega
theorem Fz.of78 {Z Z' : Blk} (h : ∀ q, q ≠ 7 → q ≠ 8 → Z' q = Z q) : Fz Z Z' := ⟨h 0 (by omega) (by omega), h 2 (by omega) (by omega), h 3 (by omega) (by omega), h 4 (by omega) (by omega), h 6 (by omega) (by omega), h 11 (by omega) (by omega)⟩
/-- what the model's record does: nothing but to the past -/
def RecOK (Z ZR : Blk) : Prop := (∀ o, o ≠ 0 → o ≠ 2 → ZR o = Z o) ∧ ∀ k, k ≠ 5 → ZR 0 k = Z 0 k
/-- a market's operation, of the class and of the model -/
def MOp (fc fm : Blk → Option (Int32 × Blk)) : Prop := ∀ (B Z ZR : Blk), Rel B (Z 1) → Z 0 11 = (-6 : Int32) → Z 0 12 = 0 → FX6_record Z = some ZR → RecOK Z ZR →
  ∃ (r : Int32) (B' Z' : Blk), fc B = some (r, B') ∧ fm Z = some (r, Z') ∧ Rel B' (Z' 1) ∧ ((r < 0 ∧ Fz Z Z') ∨ (¬ r < 0 ∧ Fz ZR Z'))
/-- in: of arguments -/
theorem q_in (x a b : Int32) : FX6_in x a b = some (if a ≤ x ∧ x ≤ b then 1 else 0) := by
  unfold FX6_in
  by_cases h1 : x < a
  · rw [if_pos h1, if_neg (fun q => absurd q.1 (Int32.not_le.mpr h1))]
  · by_cases h2 : b < x
    · rw [if_neg h1, if_pos h2, if_neg (fun q => absurd q.2 (Int32.not_le.mpr h2))]
    · rw [if_neg h1, if_neg h2, if_pos ⟨Int32.not_lt.mp h1, Int32.not_lt.mp h2⟩]
/-- a number between two -/
theorem nI_btw {x : Int32} {a b : Nat} (hb : b < 2 ^ 31) (h1 : nI a ≤ x) (h2 : x ≤ nI b) (ha : a < 2 ^ 31) : ∃ k, a ≤ k ∧ k ≤ b ∧ x = nI k := by
  have h0 : ¬ x < 0 := fun q => by
    have e1 := Int32.lt_iff_toInt_lt.mp q
    have e2 := Int32.le_iff_toInt_le.mp h1
    rw [nI_toInt ha] at e2
    rw [show (0 : Int32).toInt = 0 from rfl] at e1
    omega
  obtain ⟨k, hk, rfl⟩ := nI_of h0
  exact ⟨k, (nI_leI ha hk).mp h1, (nI_leI hk hb).mp h2, rfl⟩
theorem RelP.n {B : Blk} {z : Nat → Int32} {P : PD} {E o : Nat → Nat} (h : RelP B z P E o) : pn P ≤ 24 := h.1.1
theorem RelP.E_le {B : Blk} {z : Nat → Int32} {P : PD} {E o : Nat → Nat} (h : RelP B z P E o) {t : Nat} (ht : t < pn P) : E t ≤ 2400 := ends_bound h.1.1 h.2.2.2.2.1 h.2.2.2.1 (fun u hu => (h.1.2.1 u hu).2.2.1) ht
/-- Rest looks at places 0, 2 and 12 to 19 of B only, at z beyond the plan -/
theorem Rest_frame {B B' : Blk} {z z' : Nat → Int32} {n : Nat} (h : Rest B z n) (h0 : B' 0 2 = B 0 2) (h1 : B' 0 3 = B 0 3) (h2 : B' 2 0 = B 2 0) (hb : ∀ o, 12 ≤ o → o ≤ 19 → B' o = B o) (z1 : z' 1 = z 1) (z2 : z' 2 = z 2) (z3 : z' 3 = z 3) (hz : ∀ k, (52 ≤ k ∧ k < 100) ∨ (124 ≤ k ∧ k < 172) ∨ (196 ≤ k ∧ k < 356) → z' k = z k) (hn : n ≤ 24) : Rest B' z' n := by
  obtain ⟨⟨a1, a2, a3, a4⟩, b, ⟨du, d1, d2⟩, e, f, k, k1, k2, k3, k4⟩ := h
  refine ⟨⟨by rw [h0, z1]; exact a1, by rw [h1, z2]; exact a2, by rw [z1]; exact a3, by rw [z2]; exact a4⟩, fun t ht => ?_, ⟨du, fun t ht => by rw [hz _ (by omega)]; exact d1 t ht, d2⟩, fun t ht => by rw [hz _ (by omega)]; exact e t ht, fun t ht => by rw [hz _ (by omega)]; exact f t ht, k, k1, by rw [h2]; exact k2, by rw [z3]; exact k3, fun c hc => ?_⟩
  · rw [hb 16 (by omega) (by omega), hb 17 (by omega) (by omega), hb 18 (by omega) (by omega), hb 19 (by omega) (by omega), hz _ (by omega), hz _ (by omega), hz _ (by omega), hz _ (by omega)]
    exact b t ht
  · rw [hb 12 (by omega) (by omega), hb 13 (by omega) (by omega), hb 14 (by omega) (by omega), hb 15 (by omega) (by omega), hz _ (by omega), hz _ (by omega), hz _ (by omega), hz _ (by omega)]
    exact k4 c hc
