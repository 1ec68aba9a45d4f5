theorem q_areLinked {Z : Blk} {P : PD} (hP : Pln P) (hz : ZPl (Z 1) P) {a b : Nat} (ha : a < pn P) (hb : b < pn P) : FX6_areLinked Z (nI a) (nI b) = some (if lk P a b then 1 else 0) := by
  have hn := hP.1
  unfold FX6_areLinked
  obtain ⟨x1, x2, x3, x4⟩ := hz.2 a ha
  obtain ⟨y1, y2, y3, y4⟩ := hz.2 b hb
  have m1 := (hP.2.1 a ha).1
  have m2 := (hP.2.1 b hb).1
  have e1 := aI_eq hn (pa_or hP ha) hb
  have e2 := aI_eq hn (pa_or hP hb) ha
  rw [k4, k100, nI_add, nI_add, nI_add, nI_add, ld_nI (by omega) (by decide), ld_nI (by omega) (by decide), x1, y1, eq_nI (by omega) (by omega), ld_nI (by omega) (by decide), x4, ld_nI (by omega) (by decide), y4]
  by_cases c1 : pm P a = pm P b
  · rw [if_pos c1, if_pos (Or.inl c1)]
  · rw [if_neg c1]
    by_cases c2 : aI (pa P a) = nI b
    · rw [if_pos c2, if_pos (Or.inr (Or.inl (e1.mp c2)))]
    · rw [if_neg c2]
      by_cases c3 : aI (pa P b) = nI a
      · rw [if_pos c3, if_pos (Or.inr (Or.inr (e2.mp c3)))]
      · rw [if_neg c3, if_neg]
        rintro (q | q | q)
        · exact c1 q
        · exact c2 (e1.mpr q)
        · exact c3 (e2.mpr q)
theorem q_measure {Z : Blk} {P : PD} (hP : Pln P) (hz : ZPl (Z 1) P) {t : Nat} (ht : t < pn P) : FX6_measure Z (nI t) = some (bc Z 9 (MF P t (Z 9))) := by
  have hn := hP.1
  have hz0 : ∀ L, bc Z 9 L 1 0 = nI (pn P) := fun L => by rw [bc_ne (by omega)]; exact hz.1
  have l4 : ∀ (k37 : Int32 → Blk → Option Blk) (k49 : Int32 → Int32 → Blk → Option Blk) d a L, d < 24 → a < pn P → L a = nI d → FX6_measure_62 k37 k49 fu (nI d) (nI a) (nI 0) (bc Z 9 L) = k49 (nI d) (nI (a + 1)) (bc Z 9 (foldN (stp P d a) (pn P) L)) := by
    intro k37 k49 d a L hd ha hL
    refine (loop_inv (fun fuel b s => FX6_measure_62 k37 k49 fuel (nI d) (nI a) (nI b) (bc Z 9 s)) (pn P) (fun _ s => s a = nI d) (stp P d a) (fun s => k49 (nI d) (nI (a + 1)) (bc Z 9 s)) ?_ ?_ (fun b s hb h => stp_a h hd) (fu_gt (show pn P < 100000 by omega)) (s := L) hL).1
    · intro k s _
      show FX6_measure_62s _ _ _ _ _ _ _ = _
      unfold FX6_measure_62s
      rw [k0, ld_nI (by decide) (by decide), hz0, le_nI (by omega) (by omega), if_pos (Nat.le_refl _), lt1_eq, k1, nI_add]
    · intro k b s hb hs
      show FX6_measure_62s k37 k49 (FX6_measure_62 k37 k49 k) _ _ _ _ = _
      unfold FX6_measure_62s
      have e24 : ∀ v, FX6_measure_124 k37 k49 (FX6_measure_62 k37 k49 k) (nI d) (nI a) (nI b) v (nI b) (bc Z 9 s) = FX6_measure_62 k37 k49 k (nI d) (nI a) (nI (b + 1)) (bc Z 9 (upd s b v)) := by
        intro v
        unfold FX6_measure_124
        rw [stb_nI (by omega) (by decide), lt1_eq, bs_bc, k1, nI_add]
      have e17 : FX6_measure_117 k37 k49 (FX6_measure_62 k37 k49 k) (nI d) (nI a) (nI b) (nI b) (bc Z 9 s) = FX6_measure_62 k37 k49 k (nI d) (nI a) (nI (b + 1)) (bc Z 9 s) := by
        unfold FX6_measure_117
        rw [ld_nI (by omega) (by decide), e24, bc_at]
        congr 2
        funext x
        rw [upd_eq]
        by_cases c : x = b
        · rw [if_pos c, c]
        · rw [if_neg c]
      rw [k0, ld_nI (by decide) (by decide), hz0, le_nI (by omega) (by omega), if_neg (by omega), ld_nI (by omega) (by decide), bc_at, hs, if_pos rfl, ld_nI (by omega) (by decide), q_areLinked hP (by rw [bc_ne (by omega)]; exact hz) ha hb, c1_eq, ← k0, ite_bool, e17, k1, nI_add, e24]
      unfold stp
      by_cases h2 : s b = -6
      · rw [if_pos h2]
        by_cases h1 : lk P a b
        · rw [if_pos h1, if_pos ⟨h1, h2⟩]
        · rw [if_neg h1, if_neg (fun q => h1 q.1)]
      · rw [if_neg h2, if_neg (fun q => h2 q.2)]
  have l3 : ∀ (k37 : Int32 → Blk → Option Blk) d L, d < pn P → FX6_measure_49 k37 fu (nI d) (nI 0) (bc Z 9 L) = k37 (nI (d + 1)) (bc Z 9 (foldN (mid P d) (pn P) L)) := by
    intro k37 d L hd
    refine loop_fold (fun fuel a s => FX6_measure_49 k37 fuel (nI d) (nI a) (bc Z 9 s)) (pn P) (mid P d) (fun s => k37 (nI (d + 1)) (bc Z 9 s)) ?_ ?_ (fu_gt (show pn P < 100000 by omega))
    · intro k s
      show FX6_measure_49s _ _ _ _ _ = _
      unfold FX6_measure_49s
      rw [k0, ld_nI (by decide) (by decide), hz0, le_nI (by omega) (by omega), if_pos (Nat.le_refl _), lt1_eq, k1, nI_add]
    · intro k a s ha
      show FX6_measure_49s k37 (FX6_measure_49 k37 k) _ _ _ = _
      unfold FX6_measure_49s
      rw [k0, ld_nI (by decide) (by decide), hz0, le_nI (by omega) (by omega), if_neg (by omega)]
      unfold mid
      by_cases c : s a = nI d
      · rw [if_pos c, l4 k37 _ d a s (by omega) ha c]
      · rw [if_neg c]
        show FX6_measure_62s k37 (FX6_measure_49 k37 k) _ _ _ _ _ = _
        unfold FX6_measure_62s
        rw [k0, ld_nI (by decide) (by decide), hz0, le_nI (by omega) (by omega), if_neg (by omega), ld_nI (by omega) (by decide), bc_at, if_neg c, lt1_eq, k1, nI_add]
  have l2 : ∀ L, FX6_measure_37 fu (nI 0) (bc Z 9 L) = some (bc Z 9 (foldN (fun d L => foldN (mid P d) (pn P) L) (pn P) L)) := by
    intro L
    refine loop_fold (fun fuel d s => FX6_measure_37 fuel (nI d) (bc Z 9 s)) (pn P) (fun d L => foldN (mid P d) (pn P) L) (fun s => some (bc Z 9 s)) ?_ ?_ (fu_gt (show pn P < 100000 by omega))
    · intro k s
      show FX6_measure_37s _ _ _ = _
      unfold FX6_measure_37s
      rw [k0, ld_nI (by decide) (by decide), hz0, le_nI (by omega) (by omega), if_pos (Nat.le_refl _)]
    · intro k d s hd
      show FX6_measure_37s (FX6_measure_37 k) _ _ = _
      unfold FX6_measure_37s
      rw [k0, ld_nI (by decide) (by decide), hz0, le_nI (by omega) (by omega), if_neg (by omega), l3 _ d s hd]
  unfold FX6_measure MF
  rw [← l2, k0]
  have l1 := loop_fold (fun fuel x s => FX6_measure_2 fuel (nI t) (nI x) (bc Z 9 s)) (pn P) (fun x L => upd L x (if x = t then 0 else -6)) (fun s => FX6_measure_37 fu (nI 0) (bc Z 9 s)) ?_ ?_ (fu_gt (show pn P < 100000 by omega)) (s := Z 9)
  · rw [bc_self] at l1
    exact l1
  · intro k s
    show FX6_measure_2s _ _ _ _ = _
    unfold FX6_measure_2s
    rw [k0, ld_nI (by decide) (by decide), hz0, le_nI (by omega) (by omega), if_pos (Nat.le_refl _)]
  · intro k x s hx
    show FX6_measure_2s (FX6_measure_2 k) _ _ _ = _
    unfold FX6_measure_2s FX6_measure_28
    rw [k0, ld_nI (by decide) (by decide), hz0, le_nI (by omega) (by omega), if_neg (by omega), eq_nI (by omega) (by omega), stb_nI (by omega) (by decide), stb_nI (by omega) (by decide), lt1_eq, lt1_eq, k1, nI_add, bs_bc, bs_bc]
    by_cases c : x = t
    · rw [if_pos c, if_pos c]
    · rw [if_neg c, if_neg c]
/-- the distances depend on nothing that stood there before -/
def AG (n : Nat) (f g : Nat → Int32) : Prop := ∀ x, x < n → f x = g x
theorem AG_upd {n k : Nat} {f g : Nat → Int32} {v : Int32} (h : AG n f g) : AG n (upd f k v) (upd g k v) := by
  intro x hx
  rw [upd_eq, upd_eq, h x hx]
theorem MF_AG {P : PD} (t : Nat) (f g : Nat → Int32) : AG (pn P) (MF P t f) (MF P t g) := by
  have h1 : ∀ k, k ≤ pn P → AG k (foldN (fun x L => upd L x (if x = t then 0 else -6)) k f) (foldN (fun x L => upd L x (if x = t then 0 else -6)) k g) := by
    intro k
    induction k with
    | zero => intro _ x hx; omega
    | succ k ih =>
      intro hk x hx
      rw [foldN, foldN, upd_eq, upd_eq]
      by_cases c : x = k
      · rw [if_pos c, if_pos c]
      · rw [if_neg c, if_neg c]
        exact ih (by omega) x (by omega)
  unfold MF
  refine foldN_rel (R := AG (pn P)) (fun d s u hd h => ?_) (h1 _ (Nat.le_refl _))
  refine foldN_rel (R := AG (pn P)) (fun a s u ha h => ?_) h
  unfold mid
  rw [h a ha]
  by_cases c : u a = nI d
  · rw [if_pos c, if_pos c]
    refine foldN_rel (R := AG (pn P)) (fun b s u hb h => ?_) h
    unfold stp
    rw [h b hb]
    by_cases c2 : lk P a b ∧ u b = -6
    · rw [if_pos c2, if_pos c2]
      exact AG_upd h
    · rw [if_neg c2, if_neg c2]
      exact h
  · rw [if_neg c, if_neg c]
    exact h
