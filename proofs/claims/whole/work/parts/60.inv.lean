/-! what stands between two calls; the history -/
def Hist (R : Nat → Blk) (f k : Nat) (past : Nat → Int32) : Prop := f < 7 ∧ k ≤ 6 ∧ ∀ i, i < k → Rel (R ((f + i) % 7)) (fun x => past (356 * i + x))
def PadOK (X Z : Blk) : Prop := ∃ p, p ≤ 80 ∧ X 5 1 = nI p ∧ Z 0 8 = nI p ∧ ∀ i, i < p → ∃ c, 33 ≤ c ∧ c ≤ 126 ∧ X 6 i = nI c ∧ Z 6 i = nI c
def SlotOK (M : Mem) : Prop := ∀ s, s < 2 → M 11 2 s = M 12 4 s ∧ (M 12 4 s = 0 ∨ (¬ M 12 4 s = 0 ∧ Rel (M (2 + s)) (fun x => M 12 3 (356 * s + x))))
def HistOK (M : Mem) : Prop := ∃ f k, M 11 3 1 = nI f ∧ M 11 3 2 = nI k ∧ M 12 0 5 = nI k ∧ Hist (fun j => M (4 + j)) f k (M 12 2)
def Inv (M : Mem) : Prop := Rel (M 0) (M 12 1) ∧ Idle (M 12) ∧ M 12 0 6 = 0 ∧ HistOK M ∧ SlotOK M ∧ PadOK (M 11) (M 12)
theorem Hist.cg {R R' : Nat → Blk} {f k : Nat} {past past' : Nat → Int32} (h : Hist R f k past) (hR : ∀ i, i < k → R' ((f + i) % 7) = R ((f + i) % 7)) (hp : ∀ x, x < 356 * k → past' x = past x) : Hist R' f k past' := by
  obtain ⟨h1, h2, h3⟩ := h
  refine ⟨h1, h2, fun i hi => ?_⟩
  rw [hR i hi]
  exact (h3 i hi).eqz (fun x hx => hp _ (by omega))
theorem Hist.push {R R' : Nat → Blk} {f k : Nat} {Z Z' : Blk} {B4 : Blk} {z0 : Nat → Int32} (h : Hist R f k (Z 2)) (hR : ∀ j, j < 7 → j ≠ (f + k) % 7 → R' j = R j) (hB : R' ((f + k) % 7) = B4) (hz : Rel B4 z0) (h5 : Z 0 5 = nI k) (h6 : Z 0 6 = 0) (hp : Pushed Z Z' z0) :
    (k < 6 ∧ Z' 0 5 = nI (k + 1) ∧ Hist R' f (k + 1) (Z' 2)) ∨ (k = 6 ∧ Z' 0 5 = nI 6 ∧ Hist R' ((f + 1) % 7) 6 (Z' 2)) := by
  obtain ⟨h1, h2, h3⟩ := h
  obtain ⟨-, hp⟩ := hp
  rcases hp with ⟨e, -⟩ | ⟨-, k', e5, hp⟩
  · rw [h6] at e; exact absurd e (by decide)
  · rcases hp with ⟨a1, a2, a3, a4⟩ | ⟨a1, a2, a3, a4⟩
    · have ek : k' = k := (nI_eq (by omega) (by omega)).mp (by rw [← e5, h5])
      subst ek
      refine Or.inl ⟨a1, a2, h1, by omega, fun i hi => ?_⟩
      rcases Nat.lt_or_ge i k' with c | c
      · rw [hR _ (Nat.mod_lt _ (by omega)) (by omega)]
        exact (h3 i c).eqz (fun x hx => a4 _ (by omega))
      · have : i = k' := by omega
        subst this
        rw [hB]
        exact hz.eqz (fun x hx => a3 x hx)
    · have ek : k' = k := (nI_eq (by omega) (by omega)).mp (by rw [← e5, h5])
      subst ek
      subst a1
      refine Or.inr ⟨rfl, a2, Nat.mod_lt _ (by omega), by omega, fun i hi => ?_⟩
      rcases Nat.lt_or_ge i 5 with c | c
      · rw [hR _ (Nat.mod_lt _ (by omega)) (by omega), show ((f + 1) % 7 + i) % 7 = (f + (i + 1)) % 7 by omega]
        exact (h3 (i + 1) (by omega)).eqz (fun x hx => by
          show Z' 2 (356 * i + x) = Z 2 (356 * (i + 1) + x)
          rw [a4 _ (by omega)]
          congr 1
          omega)
      · have : i = 5 := by omega
        subst this
        rw [show ((f + 1) % 7 + 5) % 7 = (f + 6) % 7 by omega, hB]
        exact hz.eqz (fun x hx => a3 x hx)
theorem ring_ix {f k : Nat} (hf : f < 7) (hk : k ≤ 7) : (nI f + nI k) - (nI f + nI k) / 7 * 7 = nI ((f + k) % 7) := by
  rw [nI_add, show (7 : Int32) = nI 7 from rfl, pk_rem (by omega) (by omega) (by omega)]
theorem p_prepare {M : Mem} {f k : Nat} (hf : f < 7) (hk : k ≤ 6) (h1 : M 11 3 1 = nI f) (h2 : M 11 3 2 = nI k) : ∃ B4 : Blk, FX1_prepare M = some (jb M (4 + (f + k) % 7) B4) ∧ EqB B4 (M 0) := by
  obtain ⟨B4, b1, b2⟩ := p_copyFrom (M (4 + (f + k) % 7)) (M 0)
  refine ⟨B4, ?_, b2⟩
  have hm : (f + k) % 7 < 7 := Nat.mod_lt _ (by omega)
  unfold FX1_prepare
  rw [h1, h2, ring_ix hf (by omega), gi_nI hm (by decide), nI_clamp (by omega), b1, c1_eq, lt1_eq]
/-- a change that the class prepares and records, and the model records -/
theorem op_step {M : Mem} (hI : Inv M) {x y : Option (Int32 × Blk)} (hg : OpGoal (M 0) (M 12) x y) : ∃ (r : Int32) (M1 M3 : Mem) (B6 Z : Blk), FX1_prepare M = some M3 ∧ (∀ i, i < 4 ∨ 11 ≤ i → M3 i = M i) ∧ x = some (r, B6) ∧ FX1_record (jb M3 0 B6) r = some (r, M1) ∧ M1 0 = B6 ∧ M1 12 = M 12 ∧ y = some (r, Z) ∧ Inv (jb M1 12 Z) := by
  obtain ⟨hR, hi, h6, ⟨f, k, f1, f2, f3, hH⟩, hS, hP⟩ := hI
  obtain ⟨r, B6, Z, x1, x2, x3, x4, x5⟩ := hg
  have hf := hH.1
  have hk := hH.2.1
  obtain ⟨B4, p1, p2⟩ := p_prepare hf hk f1 f2
  have hm : (f + k) % 7 < 7 := Nat.mod_lt _ (by omega)
  have fr3 : ∀ i, i < 4 ∨ 11 ≤ i → jb M (4 + (f + k) % 7) B4 i = M i := fun i hi => jb_ne (by omega)
  have h11 : jb (jb M (4 + (f + k) % 7) B4) 0 B6 11 = M 11 := by rw [jb_ne (by omega), fr3 11 (by omega)]
  have idle' : (∀ j, j ≠ 5 → Z 0 j = M 12 0 j) → Idle Z ∧ Z 0 6 = 0 := fun h => ⟨⟨by rw [h 11 (by omega)]; exact hi.1, by rw [h 12 (by omega)]; exact hi.2⟩, by rw [h 6 (by omega)]; exact h6⟩
  have rest : ∀ (X : Blk), X 2 = M 11 2 → X 5 = M 11 5 → X 6 = M 11 6 → (∀ j, j ≠ 5 → Z 0 j = M 12 0 j) → ∀ M2 : Mem, M2 11 = X → M2 12 = Z → (∀ s, s < 2 → M2 (2 + s) = M (2 + s)) → SlotOK M2 ∧ PadOK (M2 11) (M2 12) := by
    intro X e2 e5 e6 hz M2 m1 m2 m3
    refine ⟨fun s hs => ?_, ?_⟩
    · rw [m1, m2, m3 s hs, e2, x4.1, x4.2.1]
      exact hS s hs
    · obtain ⟨p, p1, p2, p3, p4⟩ := hP
      rw [m1, m2]
      exact ⟨p, p1, by rw [e5]; exact p2, by rw [hz 8 (by omega)]; exact p3, by rw [e6, x4.2.2.1]; exact p4⟩
  rcases x5 with ⟨r1, r2, r3⟩ | ⟨r1, z0, r2, r3⟩
  · -- an error: nothing is kept
    refine ⟨r, jb (jb M (4 + (f + k) % 7) B4) 0 B6, jb M (4 + (f + k) % 7) B4, B6, Z, p1, fr3, x1, ?_, jb_at _ _ _, ?_, x2, ?_⟩
    · unfold FX1_record
      rw [if_neg (fun q => absurd r1 (Int32.not_lt.mpr q))]
    · rw [jb_ne (by omega), fr3 12 (by omega)]
    · have hz : ∀ j, j ≠ 5 → Z 0 j = M 12 0 j := fun j _ => by rw [r2]
      obtain ⟨q1, q2⟩ := rest (M 11) rfl rfl rfl hz (jb (jb (jb M (4 + (f + k) % 7) B4) 0 B6) 12 Z) (by rw [jb_ne (by omega), h11]) (jb_at _ _ _) (fun s hs => by rw [jb_ne (by omega), jb_ne (by omega), fr3 _ (by omega)])
      refine ⟨?_, ?_, ?_, ⟨f, k, ?_, ?_, ?_, ?_⟩, q1, q2⟩
      · rw [jb_ne (by omega), jb_at, jb_at]; exact x3
      · rw [jb_at]; exact (idle' hz).1
      · rw [jb_at]; exact (idle' hz).2
      · rw [jb_ne (by omega), h11]; exact f1
      · rw [jb_ne (by omega), h11]; exact f2
      · rw [jb_at, r2]; exact f3
      · rw [jb_at, r3]
        refine hH.cg (fun i hi => ?_) (fun _ _ => rfl)
        show jb (jb (jb M (4 + (f + k) % 7) B4) 0 B6) 12 Z (4 + (f + i) % 7) = M (4 + (f + i) % 7)
        rw [jb_ne (by omega), jb_ne (by omega), jb_ne (by omega)]
  · have hr : (0 : Int32) ≤ r := Int32.not_lt.mp r1
    have hz : ∀ j, j ≠ 5 → Z 0 j = M 12 0 j := r3.1
    have hpush := fun (X : Blk) => hH.push (R' := fun j => jb (jb (jb (jb M (4 + (f + k) % 7) B4) 0 B6) 11 X) 12 Z (4 + j)) (B4 := B4) (z0 := z0) (fun j hj hne => by
      show jb (jb (jb (jb M (4 + (f + k) % 7) B4) 0 B6) 11 X) 12 Z (4 + j) = M (4 + j)
      rw [jb_ne (by omega), jb_ne (by omega), jb_ne (by omega), jb_ne (by omega)]) (by
      show jb (jb (jb (jb M (4 + (f + k) % 7) B4) 0 B6) 11 X) 12 Z (4 + (f + k) % 7) = B4
      rw [jb_ne (by omega), jb_ne (by omega), jb_ne (by omega), jb_at]) (r2.eqb p2) f3 h6 r3
    have fin : ∀ (X : Blk) (f' k' : Nat), X 2 = M 11 2 → X 5 = M 11 5 → X 6 = M 11 6 → X 3 1 = nI f' → X 3 2 = nI k' → Z 0 5 = nI k' → Hist (fun j => jb (jb (jb (jb M (4 + (f + k) % 7) B4) 0 B6) 11 X) 12 Z (4 + j)) f' k' (Z 2) → Inv (jb (jb (jb (jb M (4 + (f + k) % 7) B4) 0 B6) 11 X) 12 Z) := by
      intro X f' k' e2 e5 e6 e31 e32 ez hH'
      obtain ⟨q1, q2⟩ := rest X e2 e5 e6 hz (jb (jb (jb (jb M (4 + (f + k) % 7) B4) 0 B6) 11 X) 12 Z) (by rw [jb_ne (by omega), jb_at]) (jb_at _ _ _) (fun s hs => by rw [jb_ne (by omega), jb_ne (by omega), jb_ne (by omega), fr3 _ (by omega)])
      refine ⟨?_, ?_, ?_, ⟨f', k', ?_, ?_, ?_, ?_⟩, q1, q2⟩
      · rw [jb_ne (by omega), jb_ne (by omega), jb_at, jb_at]; exact x3
      · rw [jb_at]; exact (idle' hz).1
      · rw [jb_at]; exact (idle' hz).2
      · rw [jb_ne (by omega), jb_at]; exact e31
      · rw [jb_ne (by omega), jb_at]; exact e32
      · rw [jb_at]; exact ez
      · rw [jb_at]; exact hH'
    have unr : FX1_record (jb (jb M (4 + (f + k) % 7) B4) 0 B6) r = if 6 ≤ k then some (r, jb (jb (jb M (4 + (f + k) % 7) B4) 0 B6) 11 (bs (M 11) 3 1 (nI ((f + 1) % 7)))) else some (r, jb (jb (jb M (4 + (f + k) % 7) B4) 0 B6) 11 (bs (M 11) 3 2 (nI (k + 1)))) := by
      unfold FX1_record
      rw [if_pos hr, h11, f1, f2, k6, le_nI (by omega) (by omega), lt1_eq, lt1_eq, nI_1, nI_1, show (7 : Int32) = nI 7 from rfl, pk_rem (by omega) (by omega) (by omega)]
    rcases Nat.lt_or_ge k 6 with c | c
    · refine ⟨r, _, jb M (4 + (f + k) % 7) B4, B6, Z, p1, fr3, x1, by rw [unr, if_neg (by omega)], by rw [jb_ne (by omega), jb_at], by rw [jb_ne (by omega), jb_ne (by omega), fr3 12 (by omega)], x2, ?_⟩
      rcases hpush (bs (M 11) 3 2 (nI (k + 1))) with ⟨-, g1, g2⟩ | ⟨g0, -⟩
      · exact fin _ f (k + 1) (bs_o (by omega)) (bs_o (by omega)) (bs_o (by omega)) (by rw [bs_kn (by omega)]; exact f1) bs_kk g1 g2
      · omega
    · have ek : k = 6 := by omega
      refine ⟨r, _, jb M (4 + (f + k) % 7) B4, B6, Z, p1, fr3, x1, by rw [unr, if_pos (by omega)], by rw [jb_ne (by omega), jb_at], by rw [jb_ne (by omega), jb_ne (by omega), fr3 12 (by omega)], x2, ?_⟩
      rcases hpush (bs (M 11) 3 1 (nI ((f + 1) % 7))) with ⟨g0, -⟩ | ⟨-, g1, g2⟩
      · omega
      · exact fin _ ((f + 1) % 7) 6 (bs_o (by omega)) (bs_o (by omega)) (bs_o (by omega)) bs_kk (by rw [bs_kn (by omega), f2, ek]) g1 g2
/-- a read of the block 0: what is left -/
theorem rd_step {M : Mem} (hI : Inv M) {B' Z : Blk} (hR : Rel B' (Z 1)) (hf : Fz (M 12) Z) : Inv (jb (jb M 0 B') 12 Z) := by
  obtain ⟨-, hi, h6, ⟨f, k, f1, f2, f3, hH⟩, hS, hP⟩ := hI
  obtain ⟨z0, z2, z3, z4, z6, z11⟩ := hf
  have e11 : jb (jb M 0 B') 12 Z 11 = M 11 := by rw [jb_ne (by omega), jb_ne (by omega)]
  refine ⟨by rw [jb_ne (by omega), jb_at, jb_at]; exact hR, by rw [jb_at]; exact hi.cg z0, by rw [jb_at, z0]; exact h6, ⟨f, k, by rw [e11]; exact f1, by rw [e11]; exact f2, by rw [jb_at, z0]; exact f3, ?_⟩, fun s hs => ?_, ?_⟩
  · rw [jb_at, z2]
    refine hH.cg (fun i hi => ?_) (fun _ _ => rfl)
    show jb (jb M 0 B') 12 Z (4 + (f + i) % 7) = M (4 + (f + i) % 7)
    rw [jb_ne (by omega), jb_ne (by omega)]
  · rw [e11, jb_at, z3, z4, jb_ne (show 2 + s ≠ 12 by omega), jb_ne (show 2 + s ≠ 0 by omega)]
    exact hS s hs
  · rw [e11, jb_at]
    obtain ⟨p, p1, p2, p3, p4⟩ := hP
    exact ⟨p, p1, p2, by rw [z0]; exact p3, by rw [z6]; exact p4⟩
/-- a what-if: only the block 1 and the model's row -/
theorem wi_step {M M1 : Mem} (hI : Inv M) (hM : ∀ i, i ≠ 1 → M1 i = M i) {Z : Blk} (hR : Rel (M 0) (Z 1)) (hf : Fz (M 12) Z) : Inv (jb M1 12 Z) := by
  have h := rd_step hI (B' := M 0) hR hf
  obtain ⟨g1, g2, g3, ⟨f, k, f1, f2, f3, hH⟩, hS, hP⟩ := h
  have e : ∀ i, i ≠ 1 → jb M1 12 Z i = jb (jb M 0 (M 0)) 12 Z i := by
    intro i hi
    by_cases c : i = 12
    · rw [c, jb_at, jb_at]
    · rw [jb_ne c, jb_ne c, jb_self, hM i hi]
  refine ⟨by rw [e 0 (by omega), e 12 (by omega)]; exact g1, by rw [e 12 (by omega)]; exact g2, by rw [e 12 (by omega)]; exact g3, ⟨f, k, by rw [e 11 (by omega)]; exact f1, by rw [e 11 (by omega)]; exact f2, by rw [e 12 (by omega)]; exact f3, ?_⟩, fun s hs => ?_, by rw [e 11 (by omega), e 12 (by omega)]; exact hP⟩
  · rw [e 12 (by omega)]
    exact hH.cg (fun i hi => e _ (by omega)) (fun _ _ => rfl)
  · rw [e 11 (by omega), e 12 (by omega), e (2 + s) (by omega)]
    exact hS s hs
