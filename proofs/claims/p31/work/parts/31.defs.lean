/-! PURE PART: what a market is, in numbers; the class's block B and the model's row z tied to it -/
abbrev PD : Type := Nat × (Nat → Nat) × (Nat → Nat) × (Nat → Nat) × (Nat → Nat)
/-- tasks; of a task: its machine, its place, the task ahead (99: none), its duration -/
abbrev pn (P : PD) : Nat := P.1
abbrev pm (P : PD) : Nat → Nat := P.2.1
abbrev pp (P : PD) : Nat → Nat := P.2.2.1
abbrev pa (P : PD) : Nat → Nat := P.2.2.2.1
abbrev pd (P : PD) : Nat → Nat := P.2.2.2.2
def aI (a : Nat) : Int32 := if a < 24 then nI a else -6
def cnt (mach : Nat → Nat) : Nat → Nat → Nat
  | 0, _ => 0
  | n + 1, m => cnt mach n m + (if mach n = m then 1 else 0)
def rowAt (mach place : Nat → Nat) : Nat → Nat → Nat → Nat
  | 0, _, _ => 99
  | n + 1, m, p => if mach n = m ∧ place n = p then n else rowAt mach place n m p
def cn (P : PD) (m : Nat) : Nat := cnt (pm P) (pn P) m
def ra (P : PD) (m p : Nat) : Nat := rowAt (pm P) (pp P) (pn P) m p
/-- the task in front of one in its row (99: none) -/
def fr (P : PD) (t : Nat) : Nat := if pp P t = 0 then 99 else ra P (pm P t) (pp P t - 1)
def e0 (E : Nat → Nat) (x : Nat) : Nat := if x < 24 then E x else 0
def Pln (P : PD) : Prop := pn P ≤ 24 ∧ (∀ t, t < pn P → pm P t < 4 ∧ 1 ≤ pd P t ∧ pd P t ≤ 100 ∧ (pa P t < t ∨ pa P t = 99) ∧ pp P t < cn P (pm P t)) ∧ (∀ t u, t < pn P → u < pn P → pm P t = pm P u → pp P t = pp P u → t = u) ∧ (∀ m p, m < 4 → p < cn P m → ∃ t, t < pn P ∧ pm P t = m ∧ pp P t = p)
def ZPl (z : Nat → Int32) (P : PD) : Prop := z 0 = nI (pn P) ∧ ∀ t, t < pn P → z (4 + t) = nI (pm P t) ∧ z (28 + t) = nI (pd P t) ∧ z (172 + t) = nI (pp P t) ∧ z (100 + t) = aI (pa P t)
def BPl (B : Blk) (P : PD) : Prop := B 1 0 = nI (pn P) ∧ (∀ t, t < pn P → B 3 t = nI (pm P t) ∧ B 4 t = nI (pd P t) ∧ B 5 t = aI (pa P t)) ∧ (∀ m, m < 4 → B 9 m = nI (cn P m)) ∧ (∀ t, t < pn P → B 8 (24 * pm P t + pp P t) = nI t)
/-- the ends that follow from durations d -/
def Ends (P : PD) (d E : Nat → Nat) : Prop := ∀ t, t < pn P → E t = max (e0 E (fr P t)) (e0 E (pa P t)) + d t
/-- an order in which each task stands behind those that it waits for -/
def Topo (P : PD) (o : Nat → Nat) : Prop := (∀ i, i < pn P → o i < pn P) ∧ (∀ t, t < pn P → ∃ i, i < pn P ∧ o i = t) ∧ (∀ i j, i < pn P → j < pn P → o i = o j → i = j) ∧ ∀ i, i < pn P → (fr P (o i) < 24 → ∃ j, j < i ∧ o j = fr P (o i)) ∧ (pa P (o i) < 24 → ∃ j, j < i ∧ o j = pa P (o i))
def Rest (B : Blk) (z : Nat → Int32) (n : Nat) : Prop :=
  (B 0 2 = z 1 ∧ B 0 3 = z 2 ∧ (∃ a, a ≤ 100 ∧ z 1 = nI a) ∧ (∃ a, 1 ≤ a ∧ a ≤ 9 ∧ z 2 = nI a)) ∧
  (∀ t, t < n → B 16 t = z (52 + t) ∧ B 17 t = z (76 + t) ∧ B 18 t = z (124 + t) ∧ B 19 t = z (148 + t)) ∧
  (∃ du : Nat → Nat, (∀ t, t < n → z (52 + t) = nI (du t)) ∧ sumN du n ≤ 3000 * n) ∧ (∀ t, t < n → ∃ h, h ≤ 500 ∧ z (124 + t) = nI h) ∧ (∀ t, t < n → ∃ p, p ≤ 1000 ∧ z (148 + t) = nI p) ∧
  ∃ k, k ≤ 40 ∧ B 2 0 = nI k ∧ z 3 = nI k ∧ ∀ c, c < k → (B 12 c = z (196 + c) ∧ B 13 c = z (236 + c) ∧ B 14 c = z (276 + c) ∧ B 15 c = z (316 + c)) ∧ (∃ s, s < n ∧ z (196 + c) = nI s) ∧ ∃ b, b < n ∧ z (236 + c) = nI b
def RelP (B : Blk) (z : Nat → Int32) (P : PD) (E o : Nat → Nat) : Prop := Pln P ∧ ZPl z P ∧ BPl B P ∧ Ends P (pd P) E ∧ Topo P o ∧ (∀ t, t < pn P → B 6 t = nI (E t)) ∧ (∀ i, i < pn P → B 7 i = nI (o i)) ∧ Rest B z (pn P)
def Rel (B : Blk) (z : Nat → Int32) : Prop := ∃ (P : PD) (E o : Nat → Nat), RelP B z P E o
theorem aI_lt {a : Nat} (h : a < 24) : aI a = nI a := if_pos h
theorem aI_99 : aI 99 = -6 := rfl
theorem aI_ge {a : Nat} (h : ¬ a < 24) : aI a = -6 := if_neg h
theorem rowAt_spec {mach place : Nat → Nat} {n m p : Nat} : (rowAt mach place n m p < n ∧ mach (rowAt mach place n m p) = m ∧ place (rowAt mach place n m p) = p) ∨ (rowAt mach place n m p = 99 ∧ ∀ t, t < n → ¬ (mach t = m ∧ place t = p)) := by
  induction n with
  | zero => exact Or.inr ⟨rfl, fun t h => by omega⟩
  | succ n ih =>
    rw [rowAt]
    by_cases c : mach n = m ∧ place n = p
    · rw [if_pos c]
      exact Or.inl ⟨by omega, c.1, c.2⟩
    · rw [if_neg c]
      rcases ih with ⟨h1, h2⟩ | ⟨h1, h2⟩
      · exact Or.inl ⟨by omega, h2⟩
      · refine Or.inr ⟨h1, fun t ht => ?_⟩
        rcases Nat.lt_or_ge t n with q | q
        · exact h2 t q
        · have : t = n := by omega
          subst this; exact c
theorem ra_of {P : PD} (hP : Pln P) {t : Nat} (ht : t < pn P) : ra P (pm P t) (pp P t) = t := by
  unfold ra
  rcases rowAt_spec (mach := pm P) (place := pp P) (n := pn P) (m := pm P t) (p := pp P t) with ⟨h1, h2, h3⟩ | ⟨-, h2⟩
  · exact hP.2.2.1 _ _ h1 ht h2 h3
  · exact absurd ⟨rfl, rfl⟩ (h2 t ht)
theorem ra_lt {P : PD} {m p : Nat} (h : ra P m p < 24) (hn : pn P ≤ 24) : ra P m p < pn P ∧ pm P (ra P m p) = m ∧ pp P (ra P m p) = p := by
  rcases rowAt_spec (mach := pm P) (place := pp P) (n := pn P) (m := m) (p := p) with h1 | ⟨h1, -⟩
  · exact h1
  · unfold ra at h
    rw [h1] at h
    omega
theorem ra_none {P : PD} {m p : Nat} (h : ∀ t, t < pn P → ¬ (pm P t = m ∧ pp P t = p)) : ra P m p = 99 := by
  rcases rowAt_spec (mach := pm P) (place := pp P) (n := pn P) (m := m) (p := p) with ⟨h1, h2, h3⟩ | ⟨h1, -⟩
  · exact absurd ⟨h2, h3⟩ (h _ h1)
  · exact h1
theorem ra_some {P : PD} (hP : Pln P) {m p : Nat} (hm : m < 4) (hp : p < cn P m) : ra P m p < pn P ∧ pm P (ra P m p) = m ∧ pp P (ra P m p) = p := by
  obtain ⟨t, ht, e1, e2⟩ := hP.2.2.2 m p hm hp
  have := ra_of hP ht
  rw [e1, e2] at this
  rw [this]
  exact ⟨ht, e1, e2⟩
theorem fr_lt {P : PD} (hn : pn P ≤ 24) {t : Nat} (h : fr P t < 24) : fr P t < pn P ∧ pm P (fr P t) = pm P t ∧ pp P (fr P t) + 1 = pp P t := by
  unfold fr at h ⊢
  by_cases c : pp P t = 0
  · rw [if_pos c] at h; omega
  · rw [if_neg c] at h ⊢
    obtain ⟨h1, h2, h3⟩ := ra_lt h hn
    exact ⟨h1, h2, by omega⟩
theorem fr_99 {P : PD} (hn : pn P ≤ 24) {t : Nat} (h : ¬ fr P t < 24) : fr P t = 99 := by
  unfold fr at h ⊢
  by_cases c : pp P t = 0
  · rw [if_pos c]
  · rw [if_neg c] at h ⊢
    rcases rowAt_spec (mach := pm P) (place := pp P) (n := pn P) (m := pm P t) (p := pp P t - 1) with ⟨h1, -⟩ | ⟨h1, -⟩
    · unfold ra at h; omega
    · exact h1
theorem fr_some {P : PD} (hP : Pln P) {t : Nat} (ht : t < pn P) (hp : pp P t ≠ 0) : fr P t < pn P := by
  unfold fr
  rw [if_neg hp]
  have h := (hP.2.1 t ht)
  exact (ra_some hP h.1 (by omega)).1
/-- the ends are one: two solutions agree where an order exists -/
theorem ends_uniq {P : PD} {o d E E' : Nat → Nat} (ho : Topo P o) (h : Ends P d E) (h' : Ends P d E') : ∀ t, t < pn P → E t = E' t := by
  have key : ∀ i, i < pn P → E (o i) = E' (o i) := by
    intro i
    induction i using Nat.strongRecOn with
    | ind i ih =>
      intro hi
      have ht := ho.1 i hi
      obtain ⟨h1, h2⟩ := ho.2.2.2 i hi
      rw [h _ ht, h' _ ht]
      have e1 : e0 E (fr P (o i)) = e0 E' (fr P (o i)) := by
        unfold e0
        by_cases c : fr P (o i) < 24
        · obtain ⟨j, hj, e⟩ := h1 c
          rw [if_pos c, if_pos c, ← e]
          exact ih j hj (by omega)
        · rw [if_neg c, if_neg c]
      have e2 : e0 E (pa P (o i)) = e0 E' (pa P (o i)) := by
        unfold e0
        by_cases c : pa P (o i) < 24
        · obtain ⟨j, hj, e⟩ := h2 c
          rw [if_pos c, if_pos c, ← e]
          exact ih j hj (by omega)
        · rw [if_neg c, if_neg c]
      rw [e1, e2]
  intro t ht
  obtain ⟨i, hi, rfl⟩ := ho.2.1 t ht
  exact key i hi
/-- the ends are small -/
theorem ends_le {P : PD} {o d E : Nat → Nat} {D : Nat} (ho : Topo P o) (h : Ends P d E) (hd : ∀ t, t < pn P → d t ≤ D) : ∀ i, i < pn P → E (o i) ≤ D * (i + 1) := by
  intro i
  induction i using Nat.strongRecOn with
  | ind i ih =>
    intro hi
    have ht := ho.1 i hi
    obtain ⟨h1, h2⟩ := ho.2.2.2 i hi
    rw [h _ ht]
    have hdt := hd _ ht
    have mono : ∀ j, j < i → D * (j + 1) ≤ D * i := fun j hj => Nat.mul_le_mul_left D hj
    have e1 : e0 E (fr P (o i)) ≤ D * i := by
      unfold e0
      by_cases c : fr P (o i) < 24
      · obtain ⟨j, hj, e⟩ := h1 c
        rw [if_pos c, ← e]
        exact Nat.le_trans (ih j hj (by omega)) (mono j hj)
      · rw [if_neg c]; exact Nat.zero_le _
    have e2 : e0 E (pa P (o i)) ≤ D * i := by
      unfold e0
      by_cases c : pa P (o i) < 24
      · obtain ⟨j, hj, e⟩ := h2 c
        rw [if_pos c, ← e]
        exact Nat.le_trans (ih j hj (by omega)) (mono j hj)
      · rw [if_neg c]; exact Nat.zero_le _
    rw [Nat.mul_succ]
    have := Nat.max_le.mpr ⟨e1, e2⟩
    omega
theorem ends_bound {P : PD} {o d E : Nat → Nat} {D : Nat} (hn : pn P ≤ 24) (ho : Topo P o) (h : Ends P d E) (hd : ∀ t, t < pn P → d t ≤ D) {t : Nat} (ht : t < pn P) : E t ≤ D * 24 := by
  obtain ⟨i, hi, rfl⟩ := ho.2.1 t ht
  exact Nat.le_trans (ends_le ho h hd i hi) (Nat.mul_le_mul_left D (by omega))
