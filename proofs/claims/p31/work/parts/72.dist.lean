/-! distances are the same both ways -/
def stg (P : PD) (b D : Nat) : Nat → Int32 := foldN (fun d L => foldN (mid P d) (pn P) L) D (foldN (fun x L => upd L x (if x = b then 0 else -6)) (pn P) (fun _ => 0))
theorem stg_n (P : PD) (b : Nat) : stg P b (pn P) = lkv P b := rfl
theorem stg_s (P : PD) (b D : Nat) : stg P b (D + 1) = foldN (mid P D) (pn P) (stg P b D) := rfl
theorem stg_0 (P : PD) (b : Nat) (u : Nat) : stg P b 0 u = if u < pn P ∧ u ≠ b then -6 else 0 := by
  have key : ∀ n, foldN (fun x L => upd L x (if x = b then (0 : Int32) else -6)) n (fun _ => 0) u = if u < n ∧ u ≠ b then -6 else 0 := by
    intro n
    induction n with
    | zero => rw [if_neg (by omega)]; rfl
    | succ n ih =>
      rw [foldN, upd_eq, ih]
      by_cases c : u = n
      · subst c
        rw [if_pos rfl]
        by_cases d : u = b
        · rw [if_pos d, if_neg (by omega)]
        · rw [if_neg d, if_pos (by omega)]
      · rw [if_neg c]
        by_cases d : u < n ∧ u ≠ b
        · rw [if_pos d, if_pos (by omega)]
        · rw [if_neg d, if_neg (by omega)]
  exact key (pn P)
theorem stp_keep {P : PD} {d a b u : Nat} {L : Nat → Int32} (h : ¬ L u = -6) : stp P d a b L u = L u := by
  unfold stp
  split
  · rename_i c
    rw [upd_ne (fun e => h (by rw [e]; exact c.2))]
  · rfl
theorem stp_or (P : PD) (d a b u : Nat) (L : Nat → Int32) : stp P d a b L u = L u ∨ stp P d a b L u = nI (d + 1) := by
  unfold stp
  split
  · by_cases e : u = b
    · subst e; rw [upd_at]; exact Or.inr rfl
    · rw [upd_ne e]; exact Or.inl rfl
  · exact Or.inl rfl
theorem mid_keep {P : PD} {d a u : Nat} {L : Nat → Int32} (h : ¬ L u = -6) : mid P d a L u = L u := by
  unfold mid
  split
  · exact foldN_inv (I := fun L' : Nat → Int32 => L' u = L u) (fun t s _ hs => by rw [stp_keep (by rw [hs]; exact h)]; exact hs) rfl
  · rfl
theorem mid_or {P : PD} {d a u : Nat} {L0 L : Nat → Int32} (h : L u = L0 u ∨ L u = nI (d + 1)) : mid P d a L u = L0 u ∨ mid P d a L u = nI (d + 1) := by
  unfold mid
  split
  · exact foldN_inv (I := fun L' : Nat → Int32 => L' u = L0 u ∨ L' u = nI (d + 1)) (fun t s _ hs => by
      rcases stp_or P d a t u s with e | e
      · rw [e]; exact hs
      · exact Or.inr e) h
  · exact h
theorem pass_keep {P : PD} {b D u : Nat} (h : ¬ stg P b D u = -6) : stg P b (D + 1) u = stg P b D u := by
  rw [stg_s]
  exact foldN_inv (I := fun L' : Nat → Int32 => L' u = stg P b D u) (fun t s _ hs => by rw [mid_keep (by rw [hs]; exact h)]; exact hs) rfl
theorem pass_or (P : PD) (b D u : Nat) : stg P b (D + 1) u = stg P b D u ∨ stg P b (D + 1) u = nI (D + 1) := by
  rw [stg_s]
  exact foldN_inv (I := fun L' : Nat → Int32 => L' u = stg P b D u ∨ L' u = nI (D + 1)) (fun t s _ hs => mid_or hs) (Or.inl rfl)
theorem nI_ne6 {k : Nat} (h : k < 2 ^ 31) : ¬ nI k = (-6 : Int32) := m6_ne h
theorem pass_hit {P : PD} {b D u v : Nat} (hD : D < 100) (hu : u < pn P) (hv : v < pn P) (h : stg P b D v = nI D) (hl : lk P v u) : ¬ stg P b (D + 1) u = -6 := by
  rw [stg_s]
  have hD6 : ¬ nI D = (-6 : Int32) := nI_ne6 (by omega)
  refine foldN_hit (J := fun L : Nat → Int32 => L v = nI D) (Q := fun L : Nat → Int32 => ¬ L u = -6) (t0 := v) (fun t s hs => by rw [mid_keep (by rw [hs]; exact hD6)]; exact hs) (fun t s hs => by rw [mid_keep hs]; exact hs) hv (fun s hs => ?_) h
  unfold mid
  rw [if_pos hs]
  refine foldN_hit (J := fun _ : Nat → Int32 => True) (Q := fun L : Nat → Int32 => ¬ L u = -6) (t0 := u) (fun _ _ _ => trivial) (fun t s hs => by rw [stp_keep hs]; exact hs) hu (fun s _ => ?_) trivial
  unfold stp
  by_cases c : lk P v u ∧ s u = -6
  · rw [if_pos c, upd_at]; exact nI_ne6 (by omega)
  · rw [if_neg c]
    exact fun e => c ⟨hl, e⟩
theorem stg_mono {P : PD} {b D u : Nat} (h : ¬ stg P b D u = -6) : ∀ k, stg P b (D + k) u = stg P b D u := by
  intro k
  induction k with
  | zero => rfl
  | succ k ih => rw [show D + (k + 1) = (D + k) + 1 from rfl, pass_keep (by rw [ih]; exact h), ih]
theorem stg_val {P : PD} {b u : Nat} : ∀ D, ¬ stg P b D u = -6 → ∃ e, e ≤ D ∧ stg P b e u = nI e := by
  intro D
  induction D with
  | zero =>
    intro h
    refine ⟨0, Nat.le_refl _, ?_⟩
    rw [stg_0] at h ⊢
    by_cases c : u < pn P ∧ u ≠ b
    · rw [if_pos c] at h; exact absurd rfl h
    · rw [if_neg c]; rfl
  | succ D ih =>
    intro h
    by_cases c : stg P b D u = -6
    · rcases pass_or P b D u with e | e
      · rw [e] at h; exact absurd c h
      · exact ⟨D + 1, Nat.le_refl _, e⟩
    · obtain ⟨e, e1, e2⟩ := ih c
      exact ⟨e, by omega, e2⟩
def Wk (P : PD) : Nat → Nat → Nat → Prop
  | 0, a, b => a = b ∧ a < pn P
  | k + 1, a, b => ∃ c, Wk P k a c ∧ lk P c b ∧ b < pn P
theorem Wk.lt {P : PD} {k a b : Nat} (h : Wk P k a b) : b < pn P := by
  cases k with
  | zero => obtain ⟨rfl, h⟩ := h; exact h
  | succ k => obtain ⟨c, -, -, h⟩ := h; exact h
theorem lk_symm {P : PD} {a b : Nat} (h : lk P a b) : lk P b a := by
  rcases h with h | h | h
  · exact Or.inl h.symm
  · exact Or.inr (Or.inr h)
  · exact Or.inr (Or.inl h)
theorem Wk.pre {P : PD} {k a c b : Nat} (ha : a < pn P) (hl : lk P a c) (h : Wk P k c b) : Wk P (k + 1) a b := by
  induction k generalizing b with
  | zero =>
    obtain ⟨rfl, h⟩ := h
    exact ⟨a, ⟨rfl, ha⟩, hl, h⟩
  | succ k ih =>
    obtain ⟨d, h1, h2, h3⟩ := h
    exact ⟨d, ih h1, h2, h3⟩
theorem Wk.rev {P : PD} {k a b : Nat} (h : Wk P k a b) : Wk P k b a := by
  induction k generalizing b with
  | zero =>
    obtain ⟨rfl, h⟩ := h
    exact ⟨rfl, h⟩
  | succ k ih =>
    obtain ⟨d, h1, h2, h3⟩ := h
    exact Wk.pre h3 (lk_symm h2) (ih h1)
theorem stg_comp {P : PD} {b : Nat} (hn : pn P ≤ 24) : ∀ k u, k ≤ pn P → Wk P k b u → ¬ stg P b k u = -6 := by
  intro k
  induction k with
  | zero =>
    intro u _ h
    obtain ⟨rfl, h⟩ := h
    rw [stg_0, if_neg (fun q => q.2 rfl)]
    decide
  | succ k ih =>
    intro u hk h
    obtain ⟨v, h1, h2, h3⟩ := h
    obtain ⟨e, e1, e2⟩ := stg_val k (ih v (by omega) h1)
    have q := pass_hit (b := b) (D := e) (by omega) h3 h1.lt e2 h2
    have m := stg_mono q (k - e)
    rw [show e + 1 + (k - e) = k + 1 by omega] at m
    rw [m]
    exact q
theorem stg_snd {P : PD} {b : Nat} (hb : b < pn P) (hn : pn P ≤ 24) : ∀ D u, D ≤ pn P → u < pn P → stg P b D u = nI D → (∀ e, e < D → stg P b e u = -6) → Wk P D b u := by
  intro D
  induction D with
  | zero =>
    intro u _ hu h _
    rw [stg_0] at h
    by_cases c : u < pn P ∧ u ≠ b
    · rw [if_pos c] at h; exact absurd h.symm (nI_ne6 (by omega))
    · have : u = b := by omega
      subst this
      exact ⟨rfl, hb⟩
  | succ D ih =>
    intro u hD hu h hpre
    have hu6 := hpre D (by omega)
    -- some task at distance D is linked to it
    have key : ¬ stg P b (D + 1) u = -6 → ∃ v, v < pn P ∧ stg P b D v = nI D ∧ lk P v u := by
      intro hne
      refine Classical.byContradiction fun hno => hne ?_
      rw [stg_s]
      have inv := foldN_inv (I := fun L : Nat → Int32 => L u = -6 ∧ ∀ v, v < pn P → (L v = stg P b D v ∨ L v = nI (D + 1))) (f := mid P D) (n := pn P) (s := stg P b D) (fun a L ha hL => by
        refine ⟨?_, fun v hv => mid_or (L0 := stg P b D) (hL.2 v hv)⟩
        unfold mid
        by_cases c : L a = nI D
        · rw [if_pos c]
          have haD : stg P b D a = nI D := by
            rcases hL.2 a ha with e | e
            · rw [← e]; exact c
            · rw [e] at c
              exact absurd ((nI_eq (by omega) (by omega)).mp c) (by omega)
          exact foldN_inv (I := fun L : Nat → Int32 => L u = -6) (fun t s _ hs => by
            unfold stp
            by_cases w : lk P a t ∧ s t = -6
            · rw [if_pos w]
              by_cases e : u = t
              · subst e
                exact absurd ⟨a, ha, haD, w.1⟩ hno
              · rw [upd_ne e]; exact hs
            · rw [if_neg w]; exact hs) hL.1
        · rw [if_neg c]; exact hL.1) ⟨hu6, fun _ _ => Or.inl rfl⟩
      exact inv.1
    obtain ⟨v, hv, v1, v2⟩ := key (by rw [h]; exact nI_ne6 (by omega))
    refine ⟨v, ih v (by omega) hv v1 (fun e he => ?_), v2, hu⟩
    refine Classical.byContradiction fun c => ?_
    obtain ⟨e', w1, w2⟩ := stg_val e c
    have m := stg_mono (D := e') (by rw [w2]; exact nI_ne6 (by omega)) (D - e')
    rw [show e' + (D - e') = D by omega, v1, w2] at m
    have := (nI_eq (by omega) (by omega)).mp m
    omega
theorem lkv_val {P : PD} {b u : Nat} (hb : b < pn P) (hn : pn P ≤ 24) (hu : u < pn P) (h : ¬ lkv P b u = -6) : ∃ e, e ≤ pn P ∧ lkv P b u = nI e ∧ Wk P e b u ∧ (u ≠ b → 1 ≤ e) := by
  rw [← stg_n] at h ⊢
  obtain ⟨e, e1, e2⟩ := stg_val _ h
  have hm := stg_mono (D := e) (by rw [e2]; exact nI_ne6 (by omega)) (pn P - e)
  rw [show e + (pn P - e) = pn P by omega, e2] at hm
  refine ⟨e, e1, hm, stg_snd hb hn e u e1 hu e2 (fun d hd => ?_), fun hub => ?_⟩
  · refine Classical.byContradiction fun c => ?_
    obtain ⟨e', w1, w2⟩ := stg_val d c
    have m := stg_mono (D := e') (by rw [w2]; exact nI_ne6 (by omega)) (pn P - e')
    rw [show e' + (pn P - e') = pn P by omega, hm, w2] at m
    have := (nI_eq (by omega) (by omega)).mp m
    omega
  · rcases Nat.eq_zero_or_pos e with q | q
    · subst q
      rw [stg_0, if_pos ⟨hu, hub⟩] at e2
      exact absurd e2.symm (nI_ne6 (by omega))
    · exact q
theorem lkv_symm {P : PD} {b u r : Nat} (hb : b < pn P) (hn : pn P ≤ 24) (hu : u < pn P) (hr : r ≤ 9) (hub : u ≠ b) (h : ¬ lkv P b u = -6) (h2 : ¬ nI r < lkv P b u) : ¬ nI r < lkv P u b ∧ ¬ lkv P b u ≤ 0 := by
  obtain ⟨e, e1, e2, e3, e4⟩ := lkv_val hb hn hu h
  have he := e4 hub
  rw [e2] at h2 ⊢
  have her : e ≤ r := by
    rcases Nat.lt_or_ge r e with q | q
    · exact absurd (nI_lt q (by omega)) h2
    · exact q
  have c := stg_comp (b := u) hn e b e1 e3.rev
  obtain ⟨d, d1, d2⟩ := stg_val e c
  have hm := stg_mono (D := d) (by rw [d2]; exact nI_ne6 (by omega)) (pn P - d)
  rw [show d + (pn P - d) = pn P by omega, d2, stg_n] at hm
  refine ⟨?_, ?_⟩
  · rw [hm]
    intro q
    have q' := Int32.lt_iff_toInt_lt.mp q
    rw [nI_toInt (by omega), nI_toInt (by omega)] at q'
    omega
  · intro q
    have q' := Int32.le_iff_toInt_le.mp q
    rw [nI_toInt (by omega), show (0 : Int32).toInt = 0 from rfl] at q'
    omega
theorem l_dist {M : Mem} {P : PD} {E o y : Nat → Nat} (h : StB (M 0) P E o y) {s b : Nat} (hs : s < pn P) (hb : b < pn P) : ∃ M' : Mem, FX5_distance M (nI s) (nI b) = some (lkv P s b, M') ∧ StB (M' 0) P E o y ∧ ∀ i, i ≠ 0 → M' i = M i := by
  have hn := h.n
  refine ⟨jb M 0 (bc (M 0) 11 (MF P s (M 0 11))), ?_, ?_, fun i hi => jb_ne hi⟩
  · unfold FX5_distance
    rw [p_has_nI h.bp.1 hn hs, c1_eq, if_neg (show ¬ (1 : Int32) = 0 by decide), p_has_nI h.bp.1 hn hb, c1_eq, if_neg (show ¬ (1 : Int32) = 0 by decide), p_measureFrom h.pl h.bp hs, c1_eq, lt1_eq, jb_at, bc_at, ld_nI (by omega) (by decide)]
    rw [MF_AG (P := P) s (M 0 11) (fun _ => 0) b hb]
    rfl
  · rw [jb_at]
    exact h.fr (fun q q1 q2 q3 => bc_ne q2)
