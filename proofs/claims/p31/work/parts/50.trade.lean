/-! trade: all tasks that are late buy -/
theorem latest_both {P : PD} {E o du : Nat → Nat} {B Z : Blk} {S : Int32} (hR : RelP B (Z 1) P E o) (hD : DU (Z 1) (pn P) du) (h10 : ∀ t, t < pn P → Z 10 t = nI (if bt S t = true then 0 else E t - du t)) : ∃ r, FX2_latestExcept B S = some r ∧ (∀ (k36 : Int32 → Blk → Option Blk) (l1 : Int32), FX6_tradeAll_51 k36 fu l1 (-6) (0 : Int32) Z = if r = -6 then k36 (l1 + 1) Z else stb Z 10 24 r 0 fun B19 => c1 (FX6_buys B19 r) fun B24 => k36 (l1 + 1) B24) ∧ (r = -6 ∨ ∃ j, j < pn P ∧ r = nI j ∧ bt S j = false) := by
  have hn := hR.n
  have key : ∀ d t fuel fuel' r, t + d = pn P → d < fuel → d < fuel' → (r = -6 ∨ ∃ j, j < pn P ∧ r = nI j ∧ bt S j = false) → ∃ r', FX2_latestExcept_5 B fuel S r (nI t) = some r' ∧ (∀ (k36 : Int32 → Blk → Option Blk) (l1 : Int32), FX6_tradeAll_51 k36 fuel' l1 r (nI t) Z = if r' = -6 then k36 (l1 + 1) Z else stb Z 10 24 r' 0 fun B19 => c1 (FX6_buys B19 r') fun B24 => k36 (l1 + 1) B24) ∧ (r' = -6 ∨ ∃ j, j < pn P ∧ r' = nI j ∧ bt S j = false) := by
    intro d
    induction d with
    | zero =>
      intro t fuel fuel' r ht hf hf' hr
      obtain ⟨k, rfl⟩ : ∃ k, fuel = k + 1 := ⟨fuel - 1, by omega⟩
      obtain ⟨k', rfl⟩ : ∃ k, fuel' = k + 1 := ⟨fuel' - 1, by omega⟩
      have e : t = pn P := by omega
      subst e
      refine ⟨r, ?_, fun k36 l1 => ?_, hr⟩
      · show FX2_latestExcept_5s B _ _ _ _ = _
        unfold FX2_latestExcept_5s
        rw [hR.2.2.1.1, le_nI (by omega) (by omega), if_pos (Nat.le_refl _)]
      · show FX6_tradeAll_51s k36 _ _ _ _ _ = _
        unfold FX6_tradeAll_51s
        rw [k0, ld_nI (by decide) (by decide), hR.2.1.1, le_nI (by omega) (by omega), if_pos (Nat.le_refl _), ← k0]
        rfl
    | succ d ih =>
      intro t fuel fuel' r ht hf hf' hr
      obtain ⟨k, rfl⟩ : ∃ k, fuel = k + 1 := ⟨fuel - 1, by omega⟩
      obtain ⟨k', rfl⟩ : ∃ k, fuel' = k + 1 := ⟨fuel' - 1, by omega⟩
      have htn : t < pn P := by omega
      have nx := fun r hr => ih (t + 1) k k' r (by omega) (by omega) (by omega) hr
      have hEt := hR.E_le htn
      have h10t := h10 t htn
      -- what each does: keep r, or take t
      have keepC : (bt S t = true ∨ ((bt S t = false) ∧ ((r = -6 ∧ E t - du t = 0) ∨ ∃ j, j < pn P ∧ r = nI j ∧ E t - du t ≤ E j - du j))) → FX2_latestExcept_5 B (k + 1) S r (nI t) = FX2_latestExcept_5 B k S r (nI (t + 1)) := by
        intro h
        show FX2_latestExcept_5s B (FX2_latestExcept_5 B k) _ _ _ = _
        unfold FX2_latestExcept_5s FX2_latestExcept_44
        rw [hR.2.2.1.1, le_nI (by omega) (by omega), if_neg (by omega), bt_ite (by omega), p_lateOf hR hD htn, c1_eq, lt1_eq, nI_1]
        rcases h with h | ⟨h, h2⟩
        · rw [if_pos h]
        · rw [if_neg (by rw [h]; decide)]
          rcases h2 with ⟨e, h2⟩ | ⟨j, hj, e, h2⟩
          · rw [if_pos e, h2, k0, le_nI (by omega) (by omega), if_pos (Nat.le_refl _)]
          · have hEj := hR.E_le hj
            rw [e, if_neg (m6_ne (by omega)), p_lateOf hR hD hj, c1_eq, le_nI (by omega) (by omega), if_pos h2]
      have takeC : bt S t = false → ((r = -6 ∧ 0 < E t - du t) ∨ ∃ j, j < pn P ∧ r = nI j ∧ ¬ E t - du t ≤ E j - du j) → FX2_latestExcept_5 B (k + 1) S r (nI t) = FX2_latestExcept_5 B k S (nI t) (nI (t + 1)) := by
        intro h h2
        show FX2_latestExcept_5s B (FX2_latestExcept_5 B k) _ _ _ = _
        unfold FX2_latestExcept_5s FX2_latestExcept_44
        rw [hR.2.2.1.1, le_nI (by omega) (by omega), if_neg (by omega), bt_ite (by omega), p_lateOf hR hD htn, c1_eq, if_neg (by rw [h]; decide)]
        rcases h2 with ⟨e, h2⟩ | ⟨j, hj, e, h2⟩
        · rw [if_pos e, k0, le_nI (by omega) (by omega), if_neg (by omega), lt1_eq, nI_1]
        · have hEj := hR.E_le hj
          rw [e, if_neg (m6_ne (by omega)), p_lateOf hR hD hj, c1_eq, le_nI (by omega) (by omega), if_neg h2, lt1_eq, nI_1]
      have keepZ : ∀ (k36 : Int32 → Blk → Option Blk) (l1 : Int32), ((if bt S t = true then 0 else E t - du t) = 0 ∨ ∃ j, j < pn P ∧ r = nI j ∧ bt S j = false ∧ (if bt S t = true then 0 else E t - du t) ≤ E j - du j) → FX6_tradeAll_51 k36 (k' + 1) l1 r (nI t) Z = FX6_tradeAll_51 k36 k' l1 r (nI (t + 1)) Z := by
        intro k36 l1 h
        show FX6_tradeAll_51s k36 (FX6_tradeAll_51 k36 k') _ _ _ _ = _
        unfold FX6_tradeAll_51s FX6_tradeAll_95 FX6_tradeAll_96
        rw [k0, ld_nI (by decide) (by decide), hR.2.1.1, le_nI (by omega) (by omega), if_neg (by omega), ld_nI (by omega) (by decide), h10t, ← k0, if_nIle0 (by split <;> omega), if_pos rfl, lt1_eq, nI_1]
        rcases h with h | ⟨j, hj, e, h1, h2⟩
        · rw [if_pos h]
        · by_cases c : (if bt S t = true then 0 else E t - du t) = 0
          · rw [if_pos c]
          · have hEj := hR.E_le hj
            rw [if_neg c, e, if_neg (m6_ne (by omega)), ld_nI (by omega) (by decide), ld_nI (by omega) (by decide), h10t, h10 j hj, if_neg (c := bt S j = true) (by rw [h1]; decide), le_nI (by split <;> omega) (by omega), if_pos h2]
      have takeZ : ∀ (k36 : Int32 → Blk → Option Blk) (l1 : Int32), bt S t = false → ((r = -6 ∧ 0 < E t - du t) ∨ ∃ j, j < pn P ∧ r = nI j ∧ bt S j = false ∧ ¬ E t - du t ≤ E j - du j) → FX6_tradeAll_51 k36 (k' + 1) l1 r (nI t) Z = FX6_tradeAll_51 k36 k' l1 (nI t) (nI (t + 1)) Z := by
        intro k36 l1 h h2
        rw [if_neg (c := bt S t = true) (by rw [h]; decide)] at h10t
        show FX6_tradeAll_51s k36 (FX6_tradeAll_51 k36 k') _ _ _ _ = _
        unfold FX6_tradeAll_51s FX6_tradeAll_91 FX6_tradeAll_96
        rw [k0, ld_nI (by decide) (by decide), hR.2.1.1, le_nI (by omega) (by omega), if_neg (by omega), ld_nI (by omega) (by decide), h10t, ← k0, if_nIle0 (by omega), if_neg (show ¬ (1 : Int32) = 0 by decide), lt1_eq, nI_1]
        rcases h2 with ⟨e, h2⟩ | ⟨j, hj, e, h1, h2⟩
        · rw [if_neg (by omega), if_pos e]
        · have hEj := hR.E_le hj
          rw [if_neg (by omega), e, if_neg (m6_ne (by omega)), ld_nI (by omega) (by decide), ld_nI (by omega) (by decide), h10t, h10 j hj, if_neg (c := bt S j = true) (by rw [h1]; decide), le_nI (by omega) (by omega), if_neg h2]
      cases hs : bt S t with
      | true =>
        rw [keepC (Or.inl hs)]
        have := keepZ
        obtain ⟨r', y1, y2, y3⟩ := nx r hr
        exact ⟨r', y1, fun k36 l1 => by rw [keepZ k36 l1 (Or.inl (by rw [if_pos hs]))]; exact y2 k36 l1, y3⟩
      | false =>
        have hsn : ¬ bt S t = true := by rw [hs]; decide
        rcases hr with e | ⟨j, hj, e, hj2⟩
        · by_cases c : E t - du t = 0
          · rw [keepC (Or.inr ⟨hs, Or.inl ⟨e, c⟩⟩)]
            obtain ⟨r', y1, y2, y3⟩ := nx r (Or.inl e)
            exact ⟨r', y1, fun k36 l1 => by rw [keepZ k36 l1 (Or.inl (by rw [if_neg hsn]; exact c))]; exact y2 k36 l1, y3⟩
          · rw [takeC hs (Or.inl ⟨e, by omega⟩)]
            obtain ⟨r', y1, y2, y3⟩ := nx (nI t) (Or.inr ⟨t, htn, rfl, hs⟩)
            exact ⟨r', y1, fun k36 l1 => by rw [takeZ k36 l1 hs (Or.inl ⟨e, by omega⟩)]; exact y2 k36 l1, y3⟩
        · by_cases c : E t - du t ≤ E j - du j
          · rw [keepC (Or.inr ⟨hs, Or.inr ⟨j, hj, e, c⟩⟩)]
            obtain ⟨r', y1, y2, y3⟩ := nx r (Or.inr ⟨j, hj, e, hj2⟩)
            exact ⟨r', y1, fun k36 l1 => by rw [keepZ k36 l1 (Or.inr ⟨j, hj, e, hj2, by rw [if_neg hsn]; exact c⟩)]; exact y2 k36 l1, y3⟩
          · rw [takeC hs (Or.inr ⟨j, hj, e, c⟩)]
            obtain ⟨r', y1, y2, y3⟩ := nx (nI t) (Or.inr ⟨t, htn, rfl, hs⟩)
            exact ⟨r', y1, fun k36 l1 => by rw [takeZ k36 l1 hs (Or.inr ⟨j, hj, e, hj2, c⟩)]; exact y2 k36 l1, y3⟩
  unfold FX2_latestExcept
  exact key (pn P) 0 fu fu (-6) (by omega) (fu_gt (by omega)) (fu_gt (by omega)) (Or.inl rfl)
theorem trade_loop {P : PD} {E o : Nat → Nat} {l1 : Int32} : ∀ m turn fuel fuel' S B Z du k, RelP B (Z 1) P E o → (∀ t, t < pn P → Z 8 t = nI (E t)) → DU (Z 1) (pn P) du → Z 1 3 = nI k → k ≤ 40 → (∀ t, t < pn P → Z 10 t = nI (if bt S t = true then 0 else E t - du t)) → pn P - turn = m → turn ≤ pn P → m < fuel → m < fuel' →
    ∃ (B' Z' : Blk) (du' : Nat → Nat) (k' : Nat), FX2_tradeAll_12 fuel l1 S (nI turn) B = some (nI k' - l1, B') ∧ FX6_tradeAll_36 fuel' (nI turn) Z = some Z' ∧ RelP B' (Z' 1) P E o ∧ DU (Z' 1) (pn P) du' ∧ Z' 1 3 = nI k' ∧ k ≤ k' ∧ k' ≤ 40 ∧ ∀ q, q ≠ 1 → q ≠ 9 → q ≠ 10 → Z' q = Z q := by
  intro m
  induction m with
  | zero =>
    intro turn fuel fuel' S B Z du k hR hE hD hk hk4 h10 hm ht hfu hfu'
    obtain ⟨fk, rfl⟩ : ∃ k, fuel = k + 1 := ⟨fuel - 1, by omega⟩
    obtain ⟨fk', rfl⟩ : ∃ k, fuel' = k + 1 := ⟨fuel' - 1, by omega⟩
    have hn := hR.n
    have hB2 : B 2 0 = nI k := by
      obtain ⟨k'', -, x2, x3, -⟩ := hR.2.2.2.2.2.2.2.2.2.2.2.2
      rw [x2, ← x3, hk]
    refine ⟨B, Z, du, k, ?_, ?_, hR, hD, hk, Nat.le_refl _, hk4, fun _ _ _ _ => rfl⟩
    · show FX2_tradeAll_12s _ _ _ _ _ = _
      unfold FX2_tradeAll_12s FX2_tradeAll_59
      rw [hR.2.2.1.1, le_nI (by omega) (by omega), if_pos (by omega), hB2]
    · show FX6_tradeAll_36s _ _ _ = _
      unfold FX6_tradeAll_36s
      rw [k0, ld_nI (by decide) (by decide), hR.2.1.1, le_nI (by omega) (by omega), if_pos (by omega)]
  | succ m ih =>
    intro turn fuel fuel' S B Z du k hR hE hD hk hk4 h10 hm ht hfu hfu'
    obtain ⟨fk, rfl⟩ : ∃ k, fuel = k + 1 := ⟨fuel - 1, by omega⟩
    obtain ⟨fk', rfl⟩ : ∃ k, fuel' = k + 1 := ⟨fuel' - 1, by omega⟩
    have hn := hR.n
    have hB2 : B 2 0 = nI k := by
      obtain ⟨k'', -, x2, x3, -⟩ := hR.2.2.2.2.2.2.2.2.2.2.2.2
      rw [x2, ← x3, hk]
    obtain ⟨r, r1, r2, r3⟩ := latest_both hR hD h10
    have unC : FX2_tradeAll_12 (fk + 1) l1 S (nI turn) B = if r = -6 then some (nI k - l1, B) else c1 (FX2_buyFor B r) fun B11 => FX2_tradeAll_12 fk l1 (S ||| ((1 : Int32) <<< (r &&& 31))) (nI (turn + 1)) B11 := by
      show FX2_tradeAll_12s (FX2_tradeAll_12 fk) _ _ _ _ = _
      unfold FX2_tradeAll_12s FX2_tradeAll_59
      rw [hR.2.2.1.1, le_nI (by omega) (by omega), if_neg (by omega), r1, c1_eq, hB2, lt1_eq]
      simp only [lt1_eq, nI_1]
    have unZ : ∀ fq tq, tq < pn P → FX6_tradeAll_36 (fq + 1) (nI tq) Z = if r = -6 then FX6_tradeAll_36 fq (nI (tq + 1)) Z else stb Z 10 24 r 0 fun B19 => c1 (FX6_buys B19 r) fun B24 => FX6_tradeAll_36 fq (nI (tq + 1)) B24 := by
      intro fq tq htq
      show FX6_tradeAll_36s (FX6_tradeAll_36 fq) _ _ = _
      unfold FX6_tradeAll_36s
      rw [k0, ld_nI (by decide) (by decide), hR.2.1.1, le_nI (by omega) (by omega), if_neg (by omega), ← k0, r2, nI_1]
    rcases r3 with e | ⟨j, hj, e, hj2⟩
    · -- none is left: the model goes over the rest without a change
      have rest : ∀ d tq fq, tq + d = pn P → d < fq → FX6_tradeAll_36 fq (nI tq) Z = some Z := by
        intro d
        induction d with
        | zero =>
          intro tq fq h1 h2
          obtain ⟨fq, rfl⟩ : ∃ k, fq = k + 1 := ⟨fq - 1, by omega⟩
          show FX6_tradeAll_36s _ _ _ = _
          unfold FX6_tradeAll_36s
          rw [k0, ld_nI (by decide) (by decide), hR.2.1.1, le_nI (by omega) (by omega), if_pos (by omega)]
        | succ d ihd =>
          intro tq fq h1 h2
          obtain ⟨fq, rfl⟩ : ∃ k, fq = k + 1 := ⟨fq - 1, by omega⟩
          rw [unZ fq tq (by omega), if_pos e]
          exact ihd (tq + 1) fq (by omega) (by omega)
      exact ⟨B, Z, du, k, by rw [unC, if_pos e], rest (m + 1) turn _ (by omega) hfu', hR, hD, hk, Nat.le_refl _, hk4, fun _ _ _ _ => rfl⟩
    · subst e
      rw [unC, unZ fk' turn (by omega), if_neg (m6_ne (by omega)), if_neg (m6_ne (by omega)), stb_nI (by omega) (by decide)]
      have z1 : bs Z 10 j 0 1 = Z 1 := bs_o (by omega)
      have z8 : bs Z 10 j 0 8 = Z 8 := bs_o (by omega)
      obtain ⟨B', z', L, du', k', b1, b2, b3, b4, b5, b6⟩ := buy_both (B := B) (Z := bs Z 10 j 0) (b := j) (k := k) (by rw [z1]; exact hR) (by rw [z8]; exact hE) (by rw [z1]; exact hD) hj (by rw [z1]; exact hk) hk4
      rw [b1, b2, c1_eq, c1_eq]
      have fr : ∀ q, q ≠ 1 → q ≠ 9 → q ≠ 10 → bc (bc (bs Z 10 j 0) 9 L) 1 z' q = Z q := fun q h1 h9 h10 => by rw [bc_ne h1, bc_ne h9, bs_o h10]
      obtain ⟨B2, Z2, du2, k2, t1, t2, t3, t4, t5, t6, t7, t8⟩ := ih (turn + 1) fk fk' (S ||| ((1 : Int32) <<< (nI j &&& 31))) B' (bc (bc (bs Z 10 j 0) 9 L) 1 z') du' k' b3.1 b3.2.1 b3.2.2.2 (by rw [bc_at]; exact b4) b5 (fun t ht => by
        rw [bc_ne (by omega), bc_ne (by omega), bs_r, bt_add (by omega) (by omega)]
        by_cases c : t = j
        · rw [if_pos ⟨rfl, c⟩, c, decide_eq_true rfl, Bool.or_true, if_pos rfl]; rfl
        · rw [if_neg (fun q => c q.2), decide_eq_false c, Bool.or_false, b6.2.2.2.2 t ht c]
          exact h10 t ht) (by omega) (by omega) (by omega) (by omega)
      refine ⟨B2, Z2, du2, k2, t1, t2, t3, t4, t5, ?_, t7, fun q h1 h9 h10 => by rw [t8 q h1 h9 h10, fr q h1 h9 h10]⟩
      have := b6.1
      omega
theorem RelP.k {B : Blk} {z : Nat → Int32} {P : PD} {E o : Nat → Nat} (h : RelP B z P E o) : ∃ k, k ≤ 40 ∧ B 2 0 = nI k ∧ z 3 = nI k := by
  obtain ⟨k, x1, x2, x3, -⟩ := h.2.2.2.2.2.2.2.2.2.2.2.2
  exact ⟨k, x1, x2, x3⟩
theorem tradeAll_both {P : PD} {E o : Nat → Nat} {B Z : Blk} (hR : RelP B (Z 1) P E o) (hi : Idle Z) : ∃ (B' Z' : Blk) (k k' : Nat), k ≤ k' ∧ k' ≤ 40 ∧ Z 1 3 = nI k ∧ Z' 1 3 = nI k' ∧ FX2_tradeAll B = some (nI k' - nI k, B') ∧ FX6_tradeAll Z = some Z' ∧ RelP B' (Z' 1) P E o ∧ (∀ t, t < pn P → Z' 8 t = nI (E t)) ∧ ∀ q, q ≠ 1 → q ≠ 7 → q ≠ 8 → q ≠ 9 → q ≠ 10 → Z' q = Z q := by
  have hn := hR.n
  have hP := hR.1
  obtain ⟨du, hD⟩ := hR.du
  obtain ⟨k, k1', k2', k3'⟩ := hR.k
  obtain ⟨Z2, r1, r2, r3⟩ := reck hP hR.2.1 (held_none hP hi.1) hR.2.2.2.2.1 hR.2.2.2.1
  have hZ2 : Z2 1 = Z 1 := r2 1 (by omega) (by omega)
  have hE2 : ∀ t, t < pn P → E t < 1000000 := fun t ht => by have := hR.E_le ht; omega
  obtain ⟨F, hF⟩ : ∃ F : Nat → Nat → Int32, F = fun j x => if x < j then nI (E x - du x) else Z2 10 x := ⟨_, rfl⟩
  have l7 : ∀ d t fuel, t + d = pn P → d < fuel → FX6_tradeAll_7 fuel (nI t) (bc Z2 10 (F t)) = FX6_tradeAll_36 fu (0 : Int32) (bc Z2 10 (F (pn P))) := by
    intro d
    induction d with
    | zero =>
      intro t fuel ht hf
      obtain ⟨fk, rfl⟩ : ∃ k, fuel = k + 1 := ⟨fuel - 1, by omega⟩
      have e : t = pn P := by omega
      subst e
      show FX6_tradeAll_7s _ _ _ = _
      unfold FX6_tradeAll_7s
      rw [k0, ld_nI (by decide) (by decide), bc_ne (o' := 1) (by omega), hZ2, hR.2.1.1, le_nI (by omega) (by omega), if_pos (Nat.le_refl _)]
    | succ d ih =>
      intro t fuel ht hf
      obtain ⟨fk, rfl⟩ : ∃ k, fuel = k + 1 := ⟨fuel - 1, by omega⟩
      have htn : t < pn P := by omega
      show FX6_tradeAll_7s (FX6_tradeAll_7 fk) _ _ = _
      unfold FX6_tradeAll_7s
      have q := q_late (Z := bc Z2 10 (F t)) (n := pn P) (E := E) (du := du) hn (by rw [bc_ne (by omega)]; exact fun t ht => (r3 t ht).2) hE2 (by rw [bc_ne (by omega), hZ2]; exact hD) htn
      rw [k0, ld_nI (by decide) (by decide), bc_ne (o' := 1) (by omega), hZ2, hR.2.1.1, le_nI (by omega) (by omega), if_neg (by omega), q, c1_eq, stb_nI (by omega) (by decide), lt1_eq, nI_1, bs_bc]
      have e : upd (F t) t (nI (E t - du t)) = F (t + 1) := by
        funext x
        rw [hF, upd_eq]
        show (if x = t then nI (E t - du t) else if x < t then nI (E x - du x) else Z2 10 x) = if x < t + 1 then nI (E x - du x) else Z2 10 x
        by_cases c : x = t
        · rw [if_pos c, if_pos (by omega), c]
        · rw [if_neg c]
          by_cases c2 : x < t
          · rw [if_pos c2, if_pos (by omega)]
          · rw [if_neg c2, if_neg (by omega)]
      rw [e]
      exact ih (t + 1) fk (by omega) (by omega)
  have l7' := l7 (pn P) 0 fu (by omega) (fu_gt (by omega))
  have eF0 : F 0 = Z2 10 := by
    rw [hF]; funext x
    show (if x < 0 then nI (E x - du x) else Z2 10 x) = Z2 10 x
    rw [if_neg (by omega)]
  rw [eF0, bc_self] at l7'
  obtain ⟨B', Z', du', k', t1, t2, t3, t4, t5, t6, t7, t8⟩ := trade_loop (l1 := nI k) (pn P) 0 fu fu 0 B (bc Z2 10 (F (pn P))) du k (by rw [bc_ne (by omega), hZ2]; exact hR) (by rw [bc_ne (by omega)]; exact fun t ht => (r3 t ht).2) (by rw [bc_ne (by omega), hZ2]; exact hD) (by rw [bc_ne (by omega), hZ2]; exact k3') k1' (fun t ht => by
    rw [bc_at, hF, b_0]
    show (if t < pn P then nI (E t - du t) else Z2 10 t) = _
    rw [if_pos ht, if_neg (by decide)]) (by omega) (by omega) (fu_gt (by omega)) (fu_gt (by omega))
  refine ⟨B', Z', k, k', t6, t7, k3', t5, ?_, ?_, t3, fun t ht => ?_, fun q h1 h7 h8 h9 h10 => by rw [t8 q h1 h9 h10, bc_ne h10, r2 q h7 h8]⟩
  · unfold FX2_tradeAll
    rw [k2', lt1_eq]
    exact t1
  · unfold FX6_tradeAll
    rw [r1, c2_eq]
    exact l7'.trans t2
  · rw [t8 8 (by omega) (by omega) (by omega), bc_ne (by omega)]
    exact (r3 t ht).2
theorem m_trade : MOp (fun B => FX2_tradeAll B) (fun Z => FX6_trade Z) := by
  intro B Z h hi hq
  show OpGoal B Z (FX2_tradeAll B) (FX6_trade Z)
  have h0 := h
  obtain ⟨P, E, o, hR⟩ := h
  obtain ⟨ZR, q1, q2, q3⟩ := q_record hq
  have hZR : ZR 1 = Z 1 := q3 1 (by omega) (by omega)
  have hi2 : Idle ZR := ⟨by rw [q2.1 11 (by omega)]; exact hi.1, by rw [q2.1 12 (by omega)]; exact hi.2⟩
  obtain ⟨B', Z', k, k', t1, t2, t3, t4, t5, t6, t7, t8, t9⟩ := tradeAll_both (B := B) (Z := ZR) (by rw [hZR]; exact hR) hi2
  refine MOp_ok h0 q2 q3 (Z' := Z') ⟨t9 0 (by omega) (by omega) (by omega) (by omega) (by omega), t9 2 (by omega) (by omega) (by omega) (by omega) (by omega), t9 3 (by omega) (by omega) (by omega) (by omega) (by omega), t9 4 (by omega) (by omega) (by omega) (by omega) (by omega), t9 6 (by omega) (by omega) (by omega) (by omega) (by omega), t9 11 (by omega) (by omega) (by omega) (by omega) (by omega)⟩ (r := nI k' - nI k) (B' := B') (by rw [nI_sub t1]; exact nneg (by omega)) ⟨P, E, o, t7⟩ t5 ?_
  unfold FX6_trade
  rw [q1, c1_eq, k3, ld_nI (by decide) (by decide), t3, t6, c1_eq, ld_nI (by decide) (by decide), t4]
