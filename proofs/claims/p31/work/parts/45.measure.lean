/-! distances, of the class and of the model -/
theorem foldN_rel {σ τ : Type} {R : σ → τ → Prop} {f : Nat → σ → σ} {g : Nat → τ → τ} {n : Nat} {s : σ} {u : τ} (h : ∀ t s u, t < n → R s u → R (f t s) (g t u)) (h0 : R s u) : R (foldN f n s) (foldN g n u) := by
  induction n with
  | zero => exact h0
  | succ n ih =>
    rw [foldN, foldN]
    exact h n _ _ (by omega) (ih (fun t s u ht => h t s u (by omega)))
abbrev lk (P : PD) (a b : Nat) : Prop := pm P a = pm P b ∨ pa P a = b ∨ pa P b = a
def stp (P : PD) (d a b : Nat) (L : Nat → Int32) : Nat → Int32 := if lk P a b ∧ L b = -6 then upd L b (nI (d + 1)) else L
def mid (P : PD) (d a : Nat) (L : Nat → Int32) : Nat → Int32 := if L a = nI d then foldN (stp P d a) (pn P) L else L
def MF (P : PD) (t : Nat) (L : Nat → Int32) : Nat → Int32 := foldN (fun d L => foldN (mid P d) (pn P) L) (pn P) (foldN (fun x L => upd L x (if x = t then 0 else -6)) (pn P) L)
theorem aI_eq {x b : Nat} {n : Nat} (hn : n ≤ 24) (hx : x < n ∨ x = 99) (hb : b < n) : aI x = nI b ↔ x = b := by
  rcases hx with hx | rfl
  · rw [aI_lt (by omega), nI_eq (by omega) (by omega)]
  · rw [aI_99]
    constructor
    · intro h; exact absurd h (m6_ne' (by omega))
    · intro h; omega
theorem stp_a {P : PD} {d a b : Nat} {L : Nat → Int32} (h : L a = nI d) (hd : d < 24) : stp P d a b L a = nI d := by
  unfold stp
  by_cases c : lk P a b ∧ L b = -6
  · rw [if_pos c]
    by_cases e : a = b
    · subst e
      rw [h] at c
      exact absurd c.2 (m6_ne (by omega))
    · rw [upd_ne e]; exact h
  · rw [if_neg c]; exact h
theorem p_link {B : Blk} {P : PD} (hP : Pln P) (hB : BPl B P) {d a : Nat} (ha : a < pn P) (hd : d < 24) {L : Nat → Int32} (hL : L a = nI d) : FX4_linkFrom (bc B 11 L) (nI a) = some (bc B 11 (foldN (stp P d a) (pn P) L)) := by
  have hn := hP.1
  unfold FX4_linkFrom
  refine (loop_inv (fun fuel b s => FX4_linkFrom_2 fuel (nI a) (nI b) (bc B 11 s)) (pn P) (fun _ s => s a = nI d) (stp P d a) (fun s => some (bc B 11 s)) ?_ ?_ (fun b s hb h => stp_a h hd) (fu_gt (show pn P < 100000 by omega)) (s := L) hL).1
  · intro k s _
    show FX4_linkFrom_2s _ _ _ _ = _
    unfold FX4_linkFrom_2s
    rw [bc_ne (o' := 1) (by omega), hB.1, le_nI (by omega) (by omega), if_pos (Nat.le_refl _)]
  · intro k b s hb hs
    show FX4_linkFrom_2s (FX4_linkFrom_2 k) _ _ _ = _
    unfold FX4_linkFrom_2s
    obtain ⟨x1, x2, x3⟩ := hB.2.1 a ha
    obtain ⟨y1, y2, y3⟩ := hB.2.1 b hb
    have m1 := (hP.2.1 a ha).1
    have m2 := (hP.2.1 b hb).1
    have go : ∀ (c : Prop) [Decidable c], (c ↔ lk P a b) → FX4_linkFrom_50 (FX4_linkFrom_2 k) (nI a) (nI b) (if c then 1 else 0) (bc B 11 s) = FX4_linkFrom_2 k (nI a) (nI (b + 1)) (bc B 11 (stp P d a b s)) := by
      intro c _ hc
      unfold FX4_linkFrom_50
      rw [ite_bool, bc_at, ld_nI (by omega) (by decide), ld_nI (by omega) (by decide), hs, k1, nI_add, nI_add, stb_nI (by omega) (by decide), lt1_eq, lt1_eq]
      unfold stp
      by_cases h1 : c
      · rw [if_pos h1]
        by_cases h2 : s b = -6
        · rw [if_pos h2, if_pos ⟨hc.mp h1, h2⟩, bs_bc]
        · rw [if_neg h2, if_neg (fun q => h2 q.2)]
      · rw [if_neg h1, if_neg (fun q => h1 (hc.mpr q.1))]
    rw [bc_ne (o' := 1) (by omega), hB.1, le_nI (by omega) (by omega), if_neg (by omega), bc_ne (o' := 3) (by omega), ld_nI (by omega) (by decide), ld_nI (by omega) (by decide), x1, y1, eq_nI (by omega) (by omega), bc_ne (o' := 5) (by omega), ld_nI (by omega) (by decide), x3, ld_nI (by omega) (by decide), y3]
    unfold FX4_linkFrom_45
    have e1 := aI_eq hn (pa_or hP ha) hb
    have e2 := aI_eq hn (pa_or hP hb) ha
    by_cases c1 : pm P a = pm P b
    · rw [if_pos c1]
      have := go True ⟨fun _ => Or.inl c1, fun _ => trivial⟩
      rw [if_pos trivial] at this
      exact this
    · rw [if_neg c1]
      by_cases c2 : aI (pa P a) = nI b
      · rw [if_pos c2]
        have := go True ⟨fun _ => Or.inr (Or.inl (e1.mp c2)), fun _ => trivial⟩
        rw [if_pos trivial] at this
        exact this
      · rw [if_neg c2]
        by_cases c3 : aI (pa P b) = nI a
        · rw [if_pos c3]
          have := go True ⟨fun _ => Or.inr (Or.inr (e2.mp c3)), fun _ => trivial⟩
          rw [if_pos trivial] at this
          exact this
        · rw [if_neg c3]
          have := go False ⟨fun q => q.elim, fun q => by
            rcases q with q | q | q
            · exact c1 q
            · exact c2 (e1.mpr q)
            · exact c3 (e2.mpr q)⟩
          rw [if_neg (fun q => q)] at this
          exact this
theorem p_measureFrom {B : Blk} {P : PD} (hP : Pln P) (hB : BPl B P) {t : Nat} (ht : t < pn P) : FX4_measureFrom B (nI t) = some (bc B 11 (MF P t (B 11))) := by
  have hn := hP.1
  have hB1 : ∀ L, BPl (bc B 11 L) P := by
    intro L
    unfold BPl
    rw [bc_ne (o' := 1) (by omega), bc_ne (o' := 3) (by omega), bc_ne (o' := 4) (by omega), bc_ne (o' := 5) (by omega), bc_ne (o' := 8) (by omega), bc_ne (o' := 9) (by omega)]
    exact hB
  have l3 : ∀ (k35 : Int32 → Blk → Option Blk) d L, d < pn P → FX4_measureFrom_45 k35 fu (nI d) (nI 0) (bc B 11 L) = k35 (nI (d + 1)) (bc B 11 (foldN (mid P d) (pn P) L)) := by
    intro k35 d L hd
    refine loop_fold (fun fuel a s => FX4_measureFrom_45 k35 fuel (nI d) (nI a) (bc B 11 s)) (pn P) (mid P d) (fun s => k35 (nI (d + 1)) (bc B 11 s)) ?_ ?_ (fu_gt (show pn P < 100000 by omega))
    · intro k s
      show FX4_measureFrom_45s _ _ _ _ _ = _
      unfold FX4_measureFrom_45s
      rw [bc_ne (o' := 1) (by omega), hB.1, le_nI (by omega) (by omega), if_pos (Nat.le_refl _), lt1_eq, k1, nI_add]
    · intro k a s ha
      show FX4_measureFrom_45s k35 (FX4_measureFrom_45 k35 k) _ _ _ = _
      unfold FX4_measureFrom_45s
      rw [bc_ne (o' := 1) (by omega), hB.1, le_nI (by omega) (by omega), if_neg (by omega), ld_nI (by omega) (by decide), bc_at, k1, nI_add, lt1_eq]
      unfold mid
      by_cases c : s a = nI d
      · rw [if_pos c, if_pos c, p_link hP hB ha (by omega) c, c1_eq, lt1_eq]
      · rw [if_neg c, if_neg c]
  have l2 : ∀ L, FX4_measureFrom_35 fu (nI 0) (bc B 11 L) = some (bc B 11 (foldN (fun d L => foldN (mid P d) (pn P) L) (pn P) L)) := by
    intro L
    refine loop_fold (fun fuel d s => FX4_measureFrom_35 fuel (nI d) (bc B 11 s)) (pn P) (fun d L => foldN (mid P d) (pn P) L) (fun s => some (bc B 11 s)) ?_ ?_ (fu_gt (show pn P < 100000 by omega))
    · intro k s
      show FX4_measureFrom_35s _ _ _ = _
      unfold FX4_measureFrom_35s
      rw [bc_ne (o' := 1) (by omega), hB.1, le_nI (by omega) (by omega), if_pos (Nat.le_refl _)]
    · intro k d s hd
      show FX4_measureFrom_35s (FX4_measureFrom_35 k) _ _ = _
      unfold FX4_measureFrom_35s
      rw [bc_ne (o' := 1) (by omega), hB.1, le_nI (by omega) (by omega), if_neg (by omega), k0, l3 _ d s hd]
  unfold FX4_measureFrom MF
  rw [← l2, k0]
  have l1 := loop_fold (fun fuel x s => FX4_measureFrom_2 fuel (nI t) (nI x) (bc B 11 s)) (pn P) (fun x L => upd L x (if x = t then 0 else -6)) (fun s => FX4_measureFrom_35 fu (nI 0) (bc B 11 s)) ?_ ?_ (fu_gt (show pn P < 100000 by omega)) (s := B 11)
  · rw [bc_self] at l1
    exact l1
  · intro k s
    show FX4_measureFrom_2s _ _ _ _ = _
    unfold FX4_measureFrom_2s
    rw [bc_ne (o' := 1) (by omega), hB.1, le_nI (by omega) (by omega), if_pos (Nat.le_refl _), k0]
  · intro k x s hx
    show FX4_measureFrom_2s (FX4_measureFrom_2 k) _ _ _ = _
    unfold FX4_measureFrom_2s FX4_measureFrom_26
    rw [bc_ne (o' := 1) (by omega), hB.1, le_nI (by omega) (by omega), if_neg (by omega), eq_nI (by omega) (by omega), stb_nI (by omega) (by decide), stb_nI (by omega) (by decide), lt1_eq, lt1_eq, k1, nI_add, bs_bc, bs_bc]
    by_cases c : x = t
    · rw [if_pos c, if_pos c]
    · rw [if_neg c, if_neg c]
