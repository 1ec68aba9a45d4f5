/-! the law's chain(): what is added round by round is the longest chain -/
def mk49 (P : PD) (E : Nat → Nat) (x t : Nat) : Int32 := if x < 24 ∧ E x = E t - pd P t then (1 : Int32) <<< (nI x &&& 31) else 0
def f49 (P : PD) (E : Nat → Nat) (t : Nat) (S : Int32) : Int32 := if bt S t = true then (S ||| mk49 P E (fr P t) t) ||| mk49 P E (pa P t) t else S
theorem bt_mk49 {P : PD} {E : Nat → Nat} {x t i : Nat} (hi : i < 32) : bt (mk49 P E x t) i = true ↔ i = x ∧ x < 24 ∧ E x = E t - pd P t := by
  unfold mk49
  by_cases c : x < 24 ∧ E x = E t - pd P t
  · rw [if_pos c, bt_one (by omega) hi, decide_eq_true_iff]
    exact ⟨fun q => ⟨q, c⟩, fun q => q.1⟩
  · rw [if_neg c, b_0]
    exact ⟨fun q => absurd q (by decide), fun q => absurd q.2 c⟩
theorem f49_keep {P : PD} {E : Nat → Nat} {t i : Nat} {S : Int32} (h : bt S i = true) : bt (f49 P E t S) i = true := by
  unfold f49
  split
  · rw [b_or, b_or, h]; rfl
  · exact h
theorem f49_bits {P : PD} {E : Nat → Nat} {t i : Nat} {S : Int32} (hP : Pln P) (ht : t < pn P) (hi : i < 32) : bt (f49 P E t S) i = true ↔ bt S i = true ∨ (bt S t = true ∧ i < pn P ∧ tgt P E i t) := by
  have hn := hP.1
  have hfr := fr_or hn (P := P) t
  have hpa := pa_or hP ht
  unfold f49
  by_cases c : bt S t = true
  · rw [if_pos c, b_or, b_or, Bool.or_eq_true, Bool.or_eq_true, bt_mk49 hi, bt_mk49 hi]
    constructor
    · rintro ((q | ⟨q1, q2, q3⟩) | ⟨q1, q2, q3⟩)
      · exact Or.inl q
      · have hin : i < pn P := by omega
        exact Or.inr ⟨c, hin, (fr_bhd hP hin).mpr (Or.inl q1.symm), by rw [q1]; exact q3⟩
      · have hin : i < pn P := by omega
        exact Or.inr ⟨c, hin, (fr_bhd hP hin).mpr (Or.inr q1.symm), by rw [q1]; exact q3⟩
    · rintro (q | ⟨-, q1, q2, q3⟩)
      · exact Or.inl (Or.inl q)
      · rcases (fr_bhd hP q1).mp q2 with e | e
        · exact Or.inl (Or.inr ⟨e.symm, by omega, by rw [e]; exact q3⟩)
        · exact Or.inr ⟨e.symm, by omega, by rw [e]; exact q3⟩
  · rw [if_neg c]
    exact ⟨Or.inl, fun q => q.elim id (fun w => absurd w.1 c)⟩
theorem clos {P : PD} {E o : Nat → Nat} (hP : Pln P) (ho : Topo P o) {S0 : Int32} (b0 : ∀ i, i < 32 → (bt S0 i = true ↔ i < pn P ∧ E i = maxN E (pn P))) : CrS P E (foldN (fun _ S => foldN (f49 P E) (pn P) S) (pn P) S0) := by
  have hn := hP.1
  refine fun i hi => ⟨?_, ?_⟩
  · have inv : ∀ i, i < 32 → bt (foldN (fun _ S => foldN (f49 P E) (pn P) S) (pn P) S0) i = true → i < pn P ∧ Cr P E i := by
      refine foldN_inv (I := fun S => ∀ i, i < 32 → bt S i = true → i < pn P ∧ Cr P E i) (fun d S hd hS => ?_) (fun i hi hb => ⟨((b0 i hi).mp hb).1, Cr_last ((b0 i hi).mp hb).1 ((b0 i hi).mp hb).2⟩)
      refine foldN_inv (I := fun S => ∀ i, i < 32 → bt S i = true → i < pn P ∧ Cr P E i) (fun t S ht hS i hi hb => ?_) hS
      rcases (f49_bits hP ht hi).mp hb with q | ⟨q1, q2, q3⟩
      · exact hS i hi q
      · exact ⟨q2, Cr_step q2 ht (hS t (by omega) q1).2 q3⟩
    exact inv i hi
  · have comp : ∀ k, k ≤ pn P → ∀ i, i < pn P → pn P ≤ i + k → Cr P E (o i) → bt (foldN (fun _ S => foldN (f49 P E) (pn P) S) k S0) (o i) = true := by
      intro k
      induction k with
      | zero => intro _ i h1 h2; omega
      | succ k ih =>
        intro hk i h1 h2 hcr
        rw [foldN]
        have keep : ∀ j, ∀ S, bt S j = true → bt (foldN (f49 P E) (pn P) S) j = true := fun j S hb => foldN_inv (I := fun S => bt S j = true) (fun t s _ hs => f49_keep hs) hb
        have hoi := ho.1 i h1
        rcases Cr_inv hcr with e | ⟨v, hv, hcv, htv⟩
        · refine keep _ _ ?_
          exact foldN_inv (I := fun S => bt S (o i) = true) (fun t s _ hs => keep _ _ hs) ((b0 _ (by omega)).mpr ⟨hoi, e⟩)
        · obtain ⟨j, hj, rfl⟩ := ho.2.1 v hv
          have hij := bhd_pos hP ho h1 hj htv.1
          have hbj := ih (by omega) j hj (by omega) hcv
          exact foldN_hit (J := fun S => bt S (o j) = true) (Q := fun S => bt S (o i) = true) (t0 := o j) (fun t s hs => f49_keep hs) (fun t s hs => f49_keep hs) hv (fun S hS => (f49_bits hP hv (by omega)).mpr (Or.inr ⟨hS, hoi, htv⟩)) hbj
    rintro ⟨q1, q2⟩
    obtain ⟨j, hj, rfl⟩ := ho.2.1 i q1
    exact comp (pn P) (Nat.le_refl _) j hj (by omega) q2
theorem or_0 (S : Int32) : S ||| 0 = S := b_ext (fun i _ => by rw [b_or, b_0, Bool.or_false])
theorem ch163 {k41 : Int32 → Int32 → Int32 → Mem → Option (Int32 × Mem)} {k49 : Int32 → Int32 → Int32 → Int32 → Mem → Option (Int32 × Mem)} {l1 l3 s0 s1 : Int32} {t : Nat} {M : Mem} : FL_chain_163 k41 k49 l1 l3 (nI t) s0 s1 M = k49 l1 (s1 ||| s0) l3 (nI (t + 1)) M := by
  unfold FL_chain_163
  rw [lt1_eq, lt1_eq, nI_1]
theorem ch125 {M : Mem} {P : PD} {E o y : Nat → Nat} (h : StB (M 0) P E o y) {t : Nat} (ht : t < pn P) {k41 : Int32 → Int32 → Int32 → Mem → Option (Int32 × Mem)} {k49 : Int32 → Int32 → Int32 → Int32 → Mem → Option (Int32 × Mem)} {l1 l3 s0 s1 : Int32} : FL_chain_125 k41 k49 l1 l3 (nI t) (aI (pa P t)) 1 s0 s1 M = k49 l1 ((s1 ||| s0) ||| mk49 P E (pa P t) t) l3 (nI (t + 1)) M := by
  have hn := h.n
  obtain ⟨q1, q2, q3⟩ := h.Ele ht
  unfold FL_chain_125 FL_chain_162
  rw [lt1_eq, if_neg (show ¬ (1 : Int32) = 0 by decide), ch163]
  rcases pa_or h.pl ht with c | c
  · obtain ⟨w1, w2, w3⟩ := h.Ele c
    rw [aI_lt (by omega), if_neg (nneg (by omega)), o5 h c, c2_eq, o4 h ht, c2_eq, eq_nI (by omega) (by omega), ch163]
    unfold mk49
    by_cases d : E (pa P t) = E t - pd P t
    · rw [if_pos d, if_pos ⟨by omega, d⟩]
    · rw [if_neg d, if_neg (fun q => d q.2), ch163]
  · rw [c, aI_99, if_pos (by decide)]
    unfold mk49
    rw [if_neg (fun q => absurd q.1 (by decide))]
theorem ch87 {M : Mem} {P : PD} {E o y : Nat → Nat} (h : StB (M 0) P E o y) {t : Nat} (ht : t < pn P) {k41 : Int32 → Int32 → Int32 → Mem → Option (Int32 × Mem)} {k49 : Int32 → Int32 → Int32 → Int32 → Mem → Option (Int32 × Mem)} {l1 l3 S : Int32} : FL_chain_87 k41 k49 l1 S l3 (nI t) (aI (fr P t)) (aI (pa P t)) 1 M = k49 l1 ((S ||| mk49 P E (fr P t) t) ||| mk49 P E (pa P t) t) l3 (nI (t + 1)) M := by
  have hn := h.n
  obtain ⟨q1, q2, q3⟩ := h.Ele ht
  unfold FL_chain_87 FL_chain_124
  rw [if_neg (show ¬ (1 : Int32) = 0 by decide), ch125 h ht]
  rcases fr_or hn (P := P) t with c | c
  · obtain ⟨w1, w2, w3⟩ := h.Ele c
    rw [aI_lt (a := fr P t) (by omega), if_neg (nneg (by omega)), o5 h c, c2_eq, o4 h ht, c2_eq, eq_nI (by omega) (by omega), ch125 h ht]
    unfold mk49
    by_cases d : E (fr P t) = E t - pd P t
    · rw [if_pos d, if_pos (c := fr P t < 24 ∧ E (fr P t) = E t - pd P t) ⟨by omega, d⟩]
    · rw [if_neg d, if_neg (c := fr P t < 24 ∧ E (fr P t) = E t - pd P t) (fun q => d q.2)]
      exact ch125 h ht
  · rw [c, aI_99, if_pos (by decide)]
    unfold mk49
    rw [if_neg (c := 99 < 24 ∧ E 99 = E t - pd P t) (fun q => absurd q.1 (by decide))]
theorem ch87_0 {M : Mem} {t : Nat} {k41 : Int32 → Int32 → Int32 → Mem → Option (Int32 × Mem)} {k49 : Int32 → Int32 → Int32 → Int32 → Mem → Option (Int32 × Mem)} {l1 l3 l5 l6 S : Int32} : FL_chain_87 k41 k49 l1 S l3 (nI t) l5 l6 0 M = k49 l1 S l3 (nI (t + 1)) M := by
  unfold FL_chain_87 FL_chain_124 FL_chain_125 FL_chain_162
  rw [if_pos rfl, lt1_eq, if_pos rfl, ch163, or_0, or_0]
theorem r_crit {M : Mem} {P : PD} {E o y : Nat → Nat} (h : StB (M 0) P E o y) : ∃ R, FX5_critical M = some R ∧ CrS P E R := by
  obtain ⟨R, r1, r2⟩ := p_longest h.1
  refine ⟨R, ?_, r2⟩
  unfold FX5_critical
  rw [r1, c1_eq]
theorem l_chain {M : Mem} {P : PD} {E o y : Nat → Nat} (h : StB (M 0) P E o y) : FL_chain M (nI (pn P)) = some (1, M) := by
  have hn := h.n
  have hm : maxN E (pn P) < 2 ^ 31 := Nat.lt_of_le_of_lt (maxN_le (b := 2400) (fun t ht => (h.Ele ht).2.1)) (by omega)
  have l49 : ∀ (k41 : Int32 → Int32 → Int32 → Mem → Option (Int32 × Mem)) d S, FL_chain_49 k41 fu (nI (pn P)) S (nI d) (0 : Int32) M = k41 (nI (pn P)) (foldN (f49 P E) (pn P) S) (nI (d + 1)) M := by
    intro k41 d S
    refine loop_fold (fun fuel t S => FL_chain_49 k41 fuel (nI (pn P)) S (nI d) (nI t) M) (pn P) (f49 P E) (fun S => k41 (nI (pn P)) S (nI (d + 1)) M) ?_ ?_ (fu_gt (show pn P < 100000 by omega))
    · intro k S
      show FL_chain_49s _ _ _ _ _ _ _ = _
      unfold FL_chain_49s
      rw [le_nI (by omega) (by omega), if_pos (Nat.le_refl _), lt1_eq, nI_1]
    · intro k t S ht
      show FL_chain_49s k41 (FL_chain_49 k41 k) _ _ _ _ _ = _
      unfold FL_chain_49s f49
      rw [le_nI (by omega) (by omega), if_neg (by omega), l_before h ht, c2_eq, o2 h ht, c2_eq, bt_ite1 (by omega), ch87 h ht, ch87_0]
      by_cases c : bt S t = true
      · rw [if_pos c, if_pos c]
      · rw [if_neg c, if_neg c]
  obtain ⟨R, hR1, hR2⟩ := r_crit h
  have l41 : ∀ S, FL_chain_41 fu (nI (pn P)) S (0 : Int32) M = (if R = foldN (fun _ S => foldN (f49 P E) (pn P) S) (pn P) S then some (1, M) else some (0, M)) := by
    intro S
    refine loop_fold (fun fuel d S => FL_chain_41 fuel (nI (pn P)) S (nI d) M) (pn P) (fun _ S => foldN (f49 P E) (pn P) S) (fun S => if R = S then some (1, M) else some (0, M)) ?_ ?_ (fu_gt (show pn P < 100000 by omega))
    · intro k S
      show FL_chain_41s _ _ _ _ _ = _
      unfold FL_chain_41s
      rw [le_nI (by omega) (by omega), if_pos (Nat.le_refl _), hR1, c1_eq]
    · intro k d S hd
      show FL_chain_41s (FL_chain_41 k) _ _ _ _ = _
      unfold FL_chain_41s
      rw [le_nI (by omega) (by omega), if_neg (by omega), l49]
  have l4 : FL_chain_4 fu (nI (pn P)) (0 : Int32) (0 : Int32) M = FL_chain_41 fu (nI (pn P)) (bfold (fun t => decide (E t = maxN E (pn P))) (pn P) 0) (0 : Int32) M := by
    refine loop_fold (fun fuel t S => FL_chain_4 fuel (nI (pn P)) S (nI t) M) (pn P) _ (fun S => FL_chain_41 fu (nI (pn P)) S (0 : Int32) M) ?_ ?_ (fu_gt (show pn P < 100000 by omega))
    · intro k S
      show FL_chain_4s _ _ _ _ _ = _
      unfold FL_chain_4s
      rw [le_nI (by omega) (by omega), if_pos (Nat.le_refl _)]
    · intro k t S ht
      obtain ⟨q1, q2, q3⟩ := h.Ele ht
      show FL_chain_4s (FL_chain_4 k) _ _ _ _ = _
      unfold FL_chain_4s FL_chain_31
      rw [le_nI (by omega) (by omega), if_neg (by omega), o5 h ht, c2_eq, n5 h, c1_eq, eq_nI (by omega) hm, lt1_eq, lt1_eq, lt1_eq, lt1_eq, nI_1, or_0]
      by_cases c : E t = maxN E (pn P)
      · rw [if_pos c, if_pos (decide_eq_true c)]
      · rw [if_neg c, if_neg (by simpa using c)]
  have cl := clos (P := P) (E := E) h.pl h.tp (S0 := bfold (fun t => decide (E t = maxN E (pn P))) (pn P) 0) (fun i hi => by rw [bt_bfold hn hi, b_0, Bool.false_or, Bool.and_eq_true, decide_eq_true_iff, decide_eq_true_iff])
  unfold FL_chain
  rw [l4, l41, if_pos (CrS_uniq hR2 cl)]
