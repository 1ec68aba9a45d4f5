/-! critical: the longest chain -/
theorem foldN_inv {σ : Type} {I : σ → Prop} {f : Nat → σ → σ} {n : Nat} {s : σ} (h : ∀ t s, t < n → I s → I (f t s)) (h0 : I s) : I (foldN f n s) := by
  induction n with
  | zero => exact h0
  | succ n ih => rw [foldN]; exact h n _ (by omega) (ih (fun t s ht => h t s (by omega)))
theorem foldN_hit {σ : Type} {J Q : σ → Prop} {f : Nat → σ → σ} {n t0 : Nat} {s : σ} (hJ : ∀ t s, J s → J (f t s)) (hQ : ∀ t s, Q s → Q (f t s)) (ht : t0 < n) (hit : ∀ s, J s → Q (f t0 s)) (h0 : J s) : Q (foldN f n s) := by
  induction n with
  | zero => omega
  | succ n ih =>
    rw [foldN]
    rcases Nat.lt_or_ge t0 n with q | q
    · exact hQ n _ (ih q)
    · have : t0 = n := by omega
      subst this
      exact hit _ (foldN_inv (fun t s _ h => hJ t s h) h0)
abbrev tgt (P : PD) (E : Nat → Nat) (u v : Nat) : Prop := bhd P u v ∧ E u = E v - pd P v
def Cr (P : PD) (E : Nat → Nat) (u : Nat) : Prop := ∀ A : Nat → Prop, (∀ t, t < pn P → E t = maxN E (pn P) → A t) → (∀ u v, u < pn P → v < pn P → A v → tgt P E u v → A u) → A u
theorem Cr_last {P : PD} {E : Nat → Nat} {t : Nat} (ht : t < pn P) (h : E t = maxN E (pn P)) : Cr P E t := fun _ h1 _ => h1 t ht h
theorem Cr_step {P : PD} {E : Nat → Nat} {u v : Nat} (hu : u < pn P) (hv : v < pn P) (h : Cr P E v) (ht : tgt P E u v) : Cr P E u := fun A h1 h2 => h2 u v hu hv (h A h1 h2) ht
theorem Cr_inv {P : PD} {E : Nat → Nat} {u : Nat} (h : Cr P E u) : E u = maxN E (pn P) ∨ ∃ v, v < pn P ∧ Cr P E v ∧ tgt P E u v := by
  refine h (fun u => E u = maxN E (pn P) ∨ ∃ v, v < pn P ∧ Cr P E v ∧ tgt P E u v) (fun t ht e => Or.inl e) (fun u v hu hv hA ht => Or.inr ⟨v, hv, ?_, ht⟩)
  rcases hA with e | ⟨w, hw, h1, h2⟩
  · exact Cr_last hv e
  · exact Cr_step hv hw h1 h2
/-- one that stands behind another is later in the order -/
theorem bhd_pos {P : PD} {o : Nat → Nat} (hP : Pln P) (ho : Topo P o) {i j : Nat} (hi : i < pn P) (hj : j < pn P) (h : bhd P (o i) (o j)) : i < j := by
  have hn := hP.1
  have hx := ho.2.2.2 j hj
  have hu := ho.1 i hi
  rcases h with ⟨h1, h2⟩ | h
  · have e : fr P (o j) = o i := by
      unfold fr
      rw [if_neg (by omega), ra_iff hP hu]
      exact ⟨h1.symm, by omega⟩
    obtain ⟨q, hq, eq⟩ := hx.1 (by rw [e]; omega)
    have := ho.2.2.1 q i (by omega) hi (by rw [eq, e])
    omega
  · obtain ⟨q, hq, eq⟩ := hx.2 (by rw [h]; omega)
    have := ho.2.2.1 q i (by omega) hi (by rw [eq, h])
    omega
theorem fr_bhd {P : PD} (hP : Pln P) {u v : Nat} (hu : u < pn P) : bhd P u v ↔ fr P v = u ∨ pa P v = u := by
  unfold bhd fr
  by_cases c : pp P v = 0
  · rw [if_pos c]
    have := hP.1
    constructor
    · rintro (⟨-, h⟩ | h)
      · omega
      · exact Or.inr h
    · rintro (h | h)
      · omega
      · exact Or.inr h
  · rw [if_neg c, ra_iff hP hu]
    constructor
    · rintro (⟨h1, h2⟩ | h)
      · exact Or.inl ⟨h1.symm, by omega⟩
      · exact Or.inr h
    · rintro (⟨h1, h2⟩ | h)
      · exact Or.inl ⟨h1.symm, by omega⟩
      · exact Or.inr h
def CrS (P : PD) (E : Nat → Nat) (R : Int32) : Prop := ∀ i, i < 32 → (bt R i = true ↔ i < pn P ∧ Cr P E i)
theorem CrS_uniq {P : PD} {E : Nat → Nat} {R R' : Int32} (h : CrS P E R) (h' : CrS P E R') : R = R' := b_ext (fun i hi => by
  have a := h i hi
  have b := h' i hi
  rw [← b] at a
  cases x : bt R i <;> cases y : bt R' i
  · rfl
  · exact absurd (a.mpr y) (by rw [x]; decide)
  · exact absurd (a.mp x) (by rw [y]; decide)
  · rfl)
theorem p_waitedFor {B : Blk} {z : Nat → Int32} {P : PD} {E o : Nat → Nat} (h : RelP B z P E o) {v : Nat} (hv : v < pn P) : ∃ W, FX4_waitedFor B (nI v) = some W ∧ ∀ i, i < 32 → (bt W i = true ↔ i < pn P ∧ tgt P E i v) := by
  have hn := h.n
  have hP := h.1
  have hB := h.2.2.1
  have hEv := h.2.2.2.1 v hv
  have hEb := h.E_le hv
  have fo := fr_or hn v
  have po := pa_or hP hv
  have rd : ∀ x, x < pn P → ∀ K : Int32 → Option Int32, ld (B 6) 24 (aI x) K = K (nI (E x)) := fun x hx K => by rw [aI_lt (by omega), ld_nI (by omega) (by decide), h.2.2.2.2.2.1 x hx]
  have w45 : ∀ s, FX4_waitedFor_45 B (nI (E v - pd P v)) (aI (pa P v)) s = some (if pa P v < 24 ∧ E (pa P v) = E v - pd P v then s ||| ((1 : Int32) <<< (nI (pa P v) &&& 31)) else s) := by
    intro s
    unfold FX4_waitedFor_45
    rw [p_has_aI hB.1 hn po, c1_eq, ite_bool]
    by_cases c : pa P v < 24
    · have hx : pa P v < pn P := by omega
      have := h.E_le hx
      rw [if_pos c, rd _ hx, eq_nI (by omega) (by omega), aI_lt c]
      by_cases c2 : E (pa P v) = E v - pd P v
      · rw [if_pos c2, if_pos ⟨c, c2⟩]
      · rw [if_neg c2, if_neg (fun q => c2 q.2)]
    · rw [if_neg c, if_neg (fun q => c q.1)]
  have run : FX4_waitedFor B (nI v) = FX4_waitedFor_45 B (nI (E v - pd P v)) (aI (pa P v)) (if fr P v < 24 ∧ E (fr P v) = E v - pd P v then (1 : Int32) <<< (nI (fr P v) &&& 31) else 0) := by
    unfold FX4_waitedFor FX4_waitedFor_44
    rw [p_startOf (by omega), c1_eq, h.2.2.2.2.2.1 v hv, (hB.2.1 v hv).2.1, nI_sub (show pd P v ≤ E v by omega), p_inFrontOf hP hB hv, c1_eq, ld_nI (by omega) (by decide), (hB.2.1 v hv).2.2, p_has_aI hB.1 hn fo, c1_eq, ite_bool]
    by_cases c : fr P v < 24
    · have hx : fr P v < pn P := by omega
      have := h.E_le hx
      rw [if_pos c, rd _ hx, eq_nI (by omega) (by omega), aI_lt c]
      by_cases c2 : E (fr P v) = E v - pd P v
      · rw [if_pos c2, if_pos ⟨c, c2⟩]
      · rw [if_neg c2, if_neg (fun q => c2 q.2)]
    · rw [if_neg c, if_neg (fun q => c q.1)]
  refine ⟨_, run.trans (w45 _), fun i hi => ?_⟩
  have bf : bt (if fr P v < 24 ∧ E (fr P v) = E v - pd P v then (1 : Int32) <<< (nI (fr P v) &&& 31) else 0) i = true ↔ i < pn P ∧ fr P v = i ∧ E i = E v - pd P v := by
    by_cases c : fr P v < 24 ∧ E (fr P v) = E v - pd P v
    · rw [if_pos c, bt_one (by omega) hi, decide_eq_true_iff]
      constructor
      · intro e; subst e; exact ⟨by omega, rfl, c.2⟩
      · intro q; exact q.2.1.symm
    · rw [if_neg c, b_0]
      constructor
      · intro q; exact absurd q (by decide)
      · rintro ⟨q1, q2, q3⟩; subst q2; exact absurd ⟨by omega, q3⟩ c
  have fin : (bt (if pa P v < 24 ∧ E (pa P v) = E v - pd P v then (if fr P v < 24 ∧ E (fr P v) = E v - pd P v then (1 : Int32) <<< (nI (fr P v) &&& 31) else 0) ||| ((1 : Int32) <<< (nI (pa P v) &&& 31)) else (if fr P v < 24 ∧ E (fr P v) = E v - pd P v then (1 : Int32) <<< (nI (fr P v) &&& 31) else 0)) i = true) ↔ (i < pn P ∧ fr P v = i ∧ E i = E v - pd P v) ∨ (i < pn P ∧ pa P v = i ∧ E i = E v - pd P v) := by
    by_cases c : pa P v < 24 ∧ E (pa P v) = E v - pd P v
    · rw [if_pos c, bt_add (by omega) hi, Bool.or_eq_true, bf, decide_eq_true_iff]
      constructor
      · rintro (q | q)
        · exact Or.inl q
        · subst q; exact Or.inr ⟨by omega, rfl, c.2⟩
      · rintro (q | q)
        · exact Or.inl q
        · exact Or.inr q.2.1.symm
    · rw [if_neg c, bf]
      constructor
      · exact Or.inl
      · rintro (q | ⟨q1, q2, q3⟩)
        · exact q
        · subst q2; exact absurd ⟨by omega, q3⟩ c
  rw [fin]
  constructor
  · rintro (⟨q1, q2, q3⟩ | ⟨q1, q2, q3⟩)
    · exact ⟨q1, (fr_bhd hP q1).mpr (Or.inl q2), q3⟩
    · exact ⟨q1, (fr_bhd hP q1).mpr (Or.inr q2), q3⟩
  · rintro ⟨q1, q2, q3⟩
    rcases (fr_bhd hP q1).mp q2 with q | q
    · exact Or.inl ⟨q1, q, q3⟩
    · exact Or.inr ⟨q1, q, q3⟩
theorem p_longest {B : Blk} {z : Nat → Int32} {P : PD} {E o : Nat → Nat} (h : RelP B z P E o) : ∃ R, FX4_longestChain B = some R ∧ CrS P E R := by
  have hn := h.n
  have hP := h.1
  have hB := h.2.2.1
  have ho := h.2.2.2.2.1
  have hE2 : ∀ t, t < pn P → E t < 2 ^ 31 := fun t ht => by have := h.E_le ht; omega
  have hm : maxN E (pn P) < 2 ^ 31 := Nat.lt_of_le_of_lt (maxN_le (b := 2400) (fun t ht => h.E_le ht)) (by omega)
  have loop : ∀ j fuel S, j ≤ pn P → j < fuel → (∀ i, i < 32 → bt S i = true → i < pn P ∧ Cr P E i) → (∀ i, j ≤ i → i < pn P → (E (o i) = maxN E (pn P) → bt S (o i) = true) ∧ (bt S (o i) = true → ∀ u, u < pn P → tgt P E u (o i) → bt S u = true)) → ∃ R, FX4_longestChain_14 B fuel (nI (maxN E (pn P))) S (nI j - 1) = some R ∧ CrS P E R := by
    intro j
    induction j with
    | zero =>
      intro fuel S hj hf hs hc
      obtain ⟨k, rfl⟩ : ∃ k, fuel = k + 1 := ⟨fuel - 1, by omega⟩
      refine ⟨S, ?_, fun i hi => ⟨hs i hi, fun q => ?_⟩⟩
      · show FX4_longestChain_14s B _ _ _ _ = _
        unfold FX4_longestChain_14s
        rw [if_pos (by decide)]
      · refine q.2 (fun i => bt S i = true) (fun t ht e => ?_) (fun u v hu hv hA ht => ?_)
        · obtain ⟨i', hi', rfl⟩ := ho.2.1 t ht
          exact (hc i' (by omega) hi').1 e
        · obtain ⟨i', hi', rfl⟩ := ho.2.1 v hv
          exact (hc i' (by omega) hi').2 hA u hu ht
    | succ j ih =>
      intro fuel S hj hf hs hc
      obtain ⟨k, rfl⟩ : ∃ k, fuel = k + 1 := ⟨fuel - 1, by omega⟩
      have hjn : j < pn P := by omega
      have hv := ho.1 j hjn
      obtain ⟨W, w1, w2⟩ := p_waitedFor h hv
      show ∃ R, FX4_longestChain_14s B (FX4_longestChain_14 B k) _ _ _ = _ ∧ _
      unfold FX4_longestChain_14s FX4_longestChain_46
      rw [nI_pred, if_neg (nneg (by omega)), ld_nI (by omega) (by decide), h.2.2.2.2.2.2.1 j hjn, ld_nI (by omega) (by decide), h.2.2.2.2.2.1 _ hv, eq_nI (hE2 _ hv) hm, w1, c1_eq, bt_ite (by omega), lt1_eq, lt1_eq, lt1_eq, ← Int32.sub_eq_add_neg]
      have take : (E (o j) = maxN E (pn P) ∨ bt S (o j) = true) → ∃ R, FX4_longestChain_14 B k (nI (maxN E (pn P))) (S ||| (((1 : Int32) <<< (nI (o j) &&& 31)) ||| W)) (nI j - 1) = some R ∧ CrS P E R := by
        intro hx
        have bits : ∀ i, i < 32 → (bt (S ||| (((1 : Int32) <<< (nI (o j) &&& 31)) ||| W)) i = true ↔ bt S i = true ∨ i = o j ∨ (i < pn P ∧ tgt P E i (o j))) := by
          intro i hi
          rw [b_or, b_or, bt_one (by omega) hi, Bool.or_eq_true, Bool.or_eq_true, decide_eq_true_iff, w2 i hi]
        have crj : Cr P E (o j) := by
          rcases hx with e | e
          · exact Cr_last hv e
          · exact (hs _ (by omega) e).2
        refine ih k _ (by omega) (by omega) (fun i hi hb => ?_) (fun i hji hin => ⟨fun e => ?_, fun hb u hu ht => ?_⟩)
        · rcases (bits i hi).mp hb with q | q | ⟨q1, q2⟩
          · exact hs i hi q
          · rw [q]; exact ⟨hv, crj⟩
          · exact ⟨q1, Cr_step q1 hv crj q2⟩
        · have hvi := ho.1 i hin
          rcases Nat.lt_or_ge j i with q | q
          · exact (bits _ (by omega)).mpr (Or.inl ((hc i (by omega) hin).1 e))
          · have : i = j := by omega
            subst this
            exact (bits _ (by omega)).mpr (Or.inr (Or.inl rfl))
        · have hvi := ho.1 i hin
          rcases Nat.lt_or_ge j i with q | q
          · have hb2 : bt S (o i) = true := by
              rcases (bits _ (by omega)).mp hb with q2 | q2 | ⟨-, q2, -⟩
              · exact q2
              · have := ho.2.2.1 i j hin hjn q2; omega
              · have := bhd_pos hP ho hin hjn q2; omega
            exact (bits _ (by omega)).mpr (Or.inl ((hc i (by omega) hin).2 hb2 u hu ht))
          · have : i = j := by omega
            subst this
            exact (bits _ (by omega)).mpr (Or.inr (Or.inr ⟨hu, ht⟩))
      by_cases c1 : E (o j) = maxN E (pn P)
      · rw [if_pos c1]
        exact take (Or.inl c1)
      · rw [if_neg c1]
        by_cases c2 : bt S (o j) = true
        · rw [if_pos c2]
          exact take (Or.inr c2)
        · rw [if_neg c2]
          refine ih k S (by omega) (by omega) hs (fun i hji hin => ?_)
          rcases Nat.lt_or_ge j i with q | q
          · exact hc i (by omega) hin
          · have : i = j := by omega
            subst this
            exact ⟨fun e => absurd e c1, fun e => absurd e c2⟩
  obtain ⟨R, r1, r2⟩ := loop (pn P) fu 0 (Nat.le_refl _) (fu_gt (by omega)) (fun i hi hb => by rw [b_0] at hb; exact absurd hb (by decide)) (fun i h1 h2 => by omega)
  refine ⟨R, ?_, r2⟩
  unfold FX4_longestChain
  rw [p_endOfAll hB.1 hn h.2.2.2.2.2.1 hE2, c1_eq, lt1_eq, hB.1]
  exact r1
theorem bt_ite1 {S : Int32} {t : Nat} {α : Type} {x y : α} (ht : t < 32) : (if ((S >>> (nI t &&& 31)) &&& 1) = 1 then x else y) = if bt S t = true then x else y := by
  by_cases c : bt S t = true
  · rw [if_pos c, if_pos]
    refine b_ext (fun i hi => ?_)
    rw [b_and, b_1 i hi]
    by_cases e : i = 0
    · subst e
      rw [b_sshr t ht S (by omega), if_pos (by omega), Nat.add_zero, c]; rfl
    · rw [decide_eq_false e, Bool.and_false]
  · rw [if_neg c, if_neg]
    intro q
    have := (bt_test ht).mpr (show bt S t = false by simpa using c)
    rw [this] at q
    exact absurd q (by decide)
def f75 (P : PD) (E : Nat → Nat) (t o : Nat) (S : Int32) : Int32 := if tgt P E o t then S ||| ((1 : Int32) <<< (nI o &&& 31)) else S
def f62 (P : PD) (E : Nat → Nat) (t : Nat) (S : Int32) : Int32 := if bt S t = true then foldN (f75 P E t) (pn P) S else S
theorem f75_keep {P : PD} {E : Nat → Nat} {t o i : Nat} {S : Int32} (ho : o < 32) (hi : i < 32) (h : bt S i = true) : bt (f75 P E t o S) i = true := by
  unfold f75
  split
  · rw [bt_add ho hi, h]; rfl
  · exact h
theorem f62_keep {P : PD} {E : Nat → Nat} {t i : Nat} {S : Int32} (hn : pn P ≤ 24) (hi : i < 32) (h : bt S i = true) : bt (f62 P E t S) i = true := by
  unfold f62
  split
  · exact foldN_inv (I := fun S => bt S i = true) (fun o s ho hs => f75_keep (by omega) hi hs) h
  · exact h
theorem q_critical {Z : Blk} {P : PD} {E o : Nat → Nat} (hP : Pln P) (hz : ZPl (Z 1) P) (ho : Topo P o) (hE2 : ∀ t, t < pn P → pd P t ≤ E t ∧ E t ≤ 2400) (hh : Held Z P (pd P)) (hE : Ends P (pd P) E) : ∃ (R : Int32) (Z' : Blk), FX6_critical Z = some (R, Z') ∧ CrS P E R ∧ ∀ q, q ≠ 7 → q ≠ 8 → Z' q = Z q := by
  have hn := hP.1
  obtain ⟨Z3, r1, r2, r3⟩ := reck hP hz hh ho hE
  have z1 : Z3 1 = Z 1 := r2 1 (by omega) (by omega)
  have h0 : Z3 1 0 = nI (pn P) := by rw [z1]; exact hz.1
  have hz3 : ZPl (Z3 1) P := by rw [z1]; exact hz
  have hEb : ∀ t, t < pn P → E t < 1000000 := fun t ht => by have := (hE2 t ht).2; omega
  have hend := q_endOfAll (Z := Z3) hn h0 (fun t ht => (r3 t ht).2) hEb
  have hm : maxN E (pn P) < 2 ^ 31 := Nat.lt_of_le_of_lt (maxN_le (b := 2400) (fun t ht => (hE2 t ht).2)) (by omega)
  have l75 : ∀ (k50 : Int32 → Int32 → Blk → Option (Int32 × Blk)) (k62 : Int32 → Int32 → Int32 → Blk → Option (Int32 × Blk)) l2 t S, t < pn P → bt S t = true → FX6_critical_75 k50 k62 fu S l2 (nI t) (0 : Int32) Z3 = k62 (foldN (f75 P E t) (pn P) S) l2 (nI (t + 1)) Z3 := by
    intro k50 k62 l2 t S ht hS
    refine (loop_inv (fun fuel o S => FX6_critical_75 k50 k62 fuel S l2 (nI t) (nI o) Z3) (pn P) (fun _ S => bt S t = true) (f75 P E t) (fun S => k62 S l2 (nI (t + 1)) Z3) ?_ ?_ (fun o s ho h => f75_keep (by omega) (by omega) h) (fu_gt (show pn P < 100000 by omega)) hS).1
    · intro k S _
      show FX6_critical_75s _ _ _ _ _ _ _ _ = _
      unfold FX6_critical_75s
      rw [k0, ld_nI (by decide) (by decide), h0, le_nI (by omega) (by omega), if_pos (Nat.le_refl _), lt1_eq, nI_1]
    · intro k o S ho hS
      show FX6_critical_75s k50 k62 (FX6_critical_75 k50 k62 k) _ _ _ _ _ = _
      obtain ⟨R, q1, q2⟩ := q_behind (Z := Z3) hP hz3 ho
      have e1 : FX6_critical_130 k50 k62 (FX6_critical_75 k50 k62 k) S l2 (nI t) (nI o) 1 Z3 = FX6_critical_75 k50 k62 k (S ||| ((1 : Int32) <<< (nI o &&& 31))) l2 (nI t) (nI (o + 1)) Z3 := by
        unfold FX6_critical_130 FX6_critical_146
        rw [if_neg (show ¬ (1 : Int32) = 0 by decide), lt1_eq, nI_1, lt1_eq]
      have e0 : FX6_critical_130 k50 k62 (FX6_critical_75 k50 k62 k) S l2 (nI t) (nI o) 0 Z3 = FX6_critical_75 k50 k62 k S l2 (nI t) (nI (o + 1)) Z3 := by
        unfold FX6_critical_130 FX6_critical_146
        rw [if_pos rfl, lt1_eq, nI_1, lt1_eq, show S ||| 0 = S from b_ext (fun i _ => by rw [b_or, b_0, Bool.or_false])]
      unfold FX6_critical_75s FX6_critical_129
      have a1 := hE2 t ht
      have a2 := hE2 o ho
      rw [e1, e0, k0, ld_nI (by decide) (by decide), h0, le_nI (by omega) (by omega), if_neg (by omega), bt_ite1 (by omega), if_pos hS, q1, c1_eq, bt_ite1 (by omega), ld_nI (by omega) (by decide), ld_nI (by omega) (by decide), (r3 o ho).2, (r3 t ht).1, eq_nI (by omega) (by omega)]
      unfold f75
      have hb := q2 t (by omega)
      by_cases c1 : bhd P o t
      · rw [if_pos (c := bt R t = true) (by rw [hb]; exact decide_eq_true ⟨ht, c1⟩)]
        by_cases c2 : E o = E t - pd P t
        · rw [if_pos c2, if_pos ⟨c1, c2⟩]
        · rw [if_neg c2, if_neg (fun q => c2 q.2)]
      · rw [if_neg (c := bt R t = true) (by rw [hb, decide_eq_false (fun q : t < pn P ∧ bhd P o t => c1 q.2)]; decide), if_neg (fun q => c1 q.1)]
  have l62 : ∀ (k50 : Int32 → Int32 → Blk → Option (Int32 × Blk)) d S, FX6_critical_62 k50 fu S (nI d) (0 : Int32) Z3 = k50 (foldN (f62 P E) (pn P) S) (nI (d + 1)) Z3 := by
    intro k50 d S
    refine loop_fold (fun fuel t S => FX6_critical_62 k50 fuel S (nI d) (nI t) Z3) (pn P) (f62 P E) (fun S => k50 S (nI (d + 1)) Z3) ?_ ?_ (fu_gt (show pn P < 100000 by omega))
    · intro k S
      show FX6_critical_62s _ _ _ _ _ _ = _
      unfold FX6_critical_62s
      rw [k0, ld_nI (by decide) (by decide), h0, le_nI (by omega) (by omega), if_pos (Nat.le_refl _), lt1_eq, nI_1]
    · intro k t S ht
      show FX6_critical_62s k50 (FX6_critical_62 k50 k) _ _ _ _ = _
      unfold FX6_critical_62s f62
      rw [k0, ld_nI (by decide) (by decide), h0, le_nI (by omega) (by omega), if_neg (by omega), ← k0]
      by_cases c : bt S t = true
      · rw [if_pos c, l75 k50 _ _ t S ht c]
      · rw [if_neg c]
        show FX6_critical_75s k50 (FX6_critical_62 k50 k) _ _ _ _ _ _ = _
        unfold FX6_critical_75s
        rw [k0, ld_nI (by decide) (by decide), h0, le_nI (by omega) (by omega), if_neg (by omega), bt_ite1 (by omega), if_neg c, lt1_eq, nI_1]
  have l50 : ∀ S, FX6_critical_50 fu S (0 : Int32) Z3 = some (foldN (fun _ S => foldN (f62 P E) (pn P) S) (pn P) S, Z3) := by
    intro S
    refine loop_fold (fun fuel d S => FX6_critical_50 fuel S (nI d) Z3) (pn P) (fun _ S => foldN (f62 P E) (pn P) S) (fun S => some (S, Z3)) ?_ ?_ (fu_gt (show pn P < 100000 by omega))
    · intro k S
      show FX6_critical_50s _ _ _ _ = _
      unfold FX6_critical_50s
      rw [k0, ld_nI (by decide) (by decide), h0, le_nI (by omega) (by omega), if_pos (Nat.le_refl _)]
    · intro k d S hd
      show FX6_critical_50s (FX6_critical_50 k) _ _ _ = _
      unfold FX6_critical_50s
      rw [k0, ld_nI (by decide) (by decide), h0, le_nI (by omega) (by omega), if_neg (by omega), ← k0, l62]
  have l9 : FX6_critical_9 fu (0 : Int32) (0 : Int32) Z3 = FX6_critical_50 fu (bfold (fun t => decide (E t = maxN E (pn P))) (pn P) 0) (0 : Int32) Z3 := by
    refine loop_fold (fun fuel t S => FX6_critical_9 fuel S (nI t) Z3) (pn P) _ (fun S => FX6_critical_50 fu S (0 : Int32) Z3) ?_ ?_ (fu_gt (show pn P < 100000 by omega))
    · intro k S
      show FX6_critical_9s _ _ _ _ = _
      unfold FX6_critical_9s
      rw [k0, ld_nI (by decide) (by decide), h0, le_nI (by omega) (by omega), if_pos (Nat.le_refl _)]
    · intro k t S ht
      have a1 := hE2 t ht
      show FX6_critical_9s (FX6_critical_9 k) _ _ _ = _
      unfold FX6_critical_9s FX6_critical_40
      rw [k0, ld_nI (by decide) (by decide), h0, le_nI (by omega) (by omega), if_neg (by omega), ld_nI (by omega) (by decide), (r3 t ht).2, hend, c1_eq, eq_nI (by omega) hm, lt1_eq, lt1_eq, lt1_eq, lt1_eq, nI_1, ← k0, show S ||| 0 = S from b_ext (fun i _ => by rw [b_or, b_0, Bool.or_false])]
      by_cases c : E t = maxN E (pn P)
      · rw [if_pos c, if_pos (decide_eq_true c)]
      · rw [if_neg c, if_neg (by simpa using c)]
  obtain ⟨S0, hS0⟩ : ∃ S0, bfold (fun t => decide (E t = maxN E (pn P))) (pn P) 0 = S0 := ⟨_, rfl⟩
  have b0 : ∀ i, i < 32 → (bt S0 i = true ↔ i < pn P ∧ E i = maxN E (pn P)) := by
    intro i hi
    rw [← hS0, bt_bfold hn hi, b_0, Bool.false_or, Bool.and_eq_true, decide_eq_true_iff, decide_eq_true_iff]
  refine ⟨foldN (fun _ S => foldN (f62 P E) (pn P) S) (pn P) S0, Z3, ?_, fun i hi => ⟨?_, ?_⟩, r2⟩
  · unfold FX6_critical
    rw [r1, c2_eq, l9, hS0, l50]
  · -- what is in it belongs there
    have inv : ∀ i, i < 32 → bt (foldN (fun _ S => foldN (f62 P E) (pn P) S) (pn P) S0) i = true → i < pn P ∧ Cr P E i := by
      refine foldN_inv (I := fun S => ∀ i, i < 32 → bt S i = true → i < pn P ∧ Cr P E i) (fun d S hd hS => ?_) (fun i hi hb => ⟨((b0 i hi).mp hb).1, Cr_last ((b0 i hi).mp hb).1 ((b0 i hi).mp hb).2⟩)
      refine foldN_inv (I := fun S => ∀ i, i < 32 → bt S i = true → i < pn P ∧ Cr P E i) (fun t S ht hS => ?_) hS
      unfold f62
      by_cases c : bt S t = true
      · rw [if_pos c]
        have ct := (hS t (by omega) c).2
        refine foldN_inv (I := fun S => ∀ i, i < 32 → bt S i = true → i < pn P ∧ Cr P E i) (fun o S ho hS i hi hb => ?_) hS
        unfold f75 at hb
        by_cases c2 : tgt P E o t
        · rw [if_pos c2, bt_add (by omega) hi, Bool.or_eq_true, decide_eq_true_iff] at hb
          rcases hb with q | q
          · exact hS i hi q
          · rw [q]; exact ⟨ho, Cr_step ho ht ct c2⟩
        · rw [if_neg c2] at hb
          exact hS i hi hb
      · rw [if_neg c]; exact hS
    exact inv i hi
  · -- what belongs there is in it
    have comp : ∀ k, k ≤ pn P → ∀ i, i < pn P → pn P ≤ i + k → Cr P E (o i) → bt (foldN (fun _ S => foldN (f62 P E) (pn P) S) k S0) (o i) = true := by
      intro k
      induction k with
      | zero => intro _ i h1 h2; omega
      | succ k ih =>
        intro hk i h1 h2 hcr
        rw [foldN]
        have keep : ∀ j, j < 32 → ∀ S, bt S j = true → bt (foldN (f62 P E) (pn P) S) j = true := fun j hj S hb => foldN_inv (I := fun S => bt S j = true) (fun t s _ hs => f62_keep hn hj hs) hb
        have hoi := ho.1 i h1
        rcases Cr_inv hcr with e | ⟨v, hv, hcv, htv⟩
        · refine keep _ (by omega) _ ?_
          exact foldN_inv (I := fun S => bt S (o i) = true) (fun t s _ hs => keep _ (by omega) _ hs) ((b0 _ (by omega)).mpr ⟨hoi, e⟩)
        · obtain ⟨j, hj, rfl⟩ := ho.2.1 v hv
          have hij := bhd_pos hP ho h1 hj htv.1
          have hbj := ih (by omega) j hj (by omega) hcv
          refine foldN_hit (J := fun S => bt S (o j) = true) (Q := fun S => bt S (o i) = true) (t0 := o j) (fun t s hs => f62_keep hn (by omega) hs) (fun t s hs => f62_keep hn (by omega) hs) hv (fun S hS => ?_) hbj
          unfold f62
          rw [if_pos hS]
          have : bt (foldN (f75 P E (o j)) (pn P) S) (o i) = true := by
            have key : ∀ n, n ≤ pn P → o i < n → bt (foldN (f75 P E (o j)) n S) (o i) = true := by
              intro n
              induction n with
              | zero => intro _ h; omega
              | succ n ihn =>
                intro hnn hin
                rw [foldN]
                rcases Nat.lt_or_ge (o i) n with q | q
                · exact f75_keep (by omega) (by omega) (ihn (by omega) q)
                · have e : o i = n := by omega
                  unfold f75
                  rw [if_pos (by rw [← e]; exact htv), bt_add (by omega) (by omega), e, decide_eq_true rfl, Bool.or_true]
            exact key _ (Nat.le_refl _) hoi
          exact this
    rintro ⟨q1, q2⟩
    obtain ⟨j, hj, rfl⟩ := ho.2.1 i q1
    exact comp (pn P) (Nat.le_refl _) j hj (by omega) q2
theorem r_critical {B Z : Blk} (h : Rel B (Z 1)) (hi : Idle Z) : ∃ (r : Int32) (Z' : Blk), FX4_longestChain B = some r ∧ FX6_critical Z = some (r, Z') ∧ ∀ q, q ≠ 7 → q ≠ 8 → Z' q = Z q := by
  obtain ⟨P, E, o, hR⟩ := h
  obtain ⟨R, p1, p2⟩ := p_longest hR
  obtain ⟨R', Z', q1, q2, q3⟩ := q_critical hR.1 hR.2.1 hR.2.2.2.2.1 (fun t ht => ⟨by have := hR.2.2.2.1 t ht; omega, hR.E_le ht⟩) (held_none hR.1 hi.1) hR.2.2.2.1
  exact ⟨R, Z', p1, by rw [q1, CrS_uniq q2 p2], q3⟩
