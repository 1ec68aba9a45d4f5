/-! one task buys from all that it can reach -/
def cb (S : Int32) (n : Nat) : Nat := sumN (fun t => if bt S t = true then 1 else 0) n
theorem cb_le (S : Int32) (n : Nat) : cb S n ≤ n := by
  unfold cb
  induction n with
  | zero => exact Nat.le_refl _
  | succ n ih =>
    rw [sumN]
    have : (if bt S n = true then 1 else 0) ≤ 1 := by split <;> omega
    omega
theorem cb_add {S : Int32} {n j : Nat} (hn : n ≤ 24) (hj : j < n) (h : bt S j = false) : cb (S ||| ((1 : Int32) <<< (nI j &&& 31))) n = cb S n + 1 := by
  have := sumN_up (f := fun t => if bt S t = true then 1 else 0) (g := fun t => if bt (S ||| ((1 : Int32) <<< (nI j &&& 31))) t = true then 1 else 0) hj (fun t ht c => by
    show (if bt (S ||| ((1 : Int32) <<< (nI j &&& 31))) t = true then 1 else 0) = if bt S t = true then 1 else 0
    rw [bt_add (by omega) (by omega), decide_eq_false c, Bool.or_false])
  have e1 : (if bt S j = true then 1 else 0) = 0 := by rw [h]; rfl
  have e2 : (if bt (S ||| ((1 : Int32) <<< (nI j &&& 31))) j = true then 1 else 0) = 1 := by
    rw [bt_add (by omega) (by omega)]
    simp
  unfold cb
  have this : sumN (fun t => if bt (S ||| ((1 : Int32) <<< (nI j &&& 31))) t = true then 1 else 0) n + (if bt S j = true then 1 else 0) = sumN (fun t => if bt S t = true then 1 else 0) n + (if bt (S ||| ((1 : Int32) <<< (nI j &&& 31))) j = true then 1 else 0) := this
  rw [e1, e2] at this
  omega
theorem cb_one {n b : Nat} (hn : n ≤ 24) (hb : b < n) : cb ((1 : Int32) <<< (nI b &&& 31)) n = 1 := by
  have h0 : cb 0 n = 0 := by
    unfold cb
    rw [sumN_congr (g := fun _ => 0) (fun t _ => by rw [b_0]; rfl)]
    induction n with
    | zero => rfl
    | succ n ih => rw [sumN]; exact (by
        have : ∀ n, sumN (fun _ => 0) n = 0 := fun n => by
          induction n with
          | zero => rfl
          | succ n ih => rw [sumN, ih]
        rw [this])
  have h1 := cb_add (S := 0) hn hb (b_0 b)
  rw [h0] at h1
  have e : (0 : Int32) ||| ((1 : Int32) <<< (nI b &&& 31)) = (1 : Int32) <<< (nI b &&& 31) := b_ext (fun i _ => by rw [b_or, b_0, Bool.false_or])
  rw [e] at h1
  exact h1
theorem SS_add {n b j : Nat} {S S' : Int32} (hn : n ≤ 24) (hj : j < n) (h : SS n b S S') : SS n b (S ||| ((1 : Int32) <<< (nI j &&& 31))) (S' ||| ((1 : Int32) <<< (nI j &&& 31))) := by
  intro t ht
  rw [bt_add (by omega) (by omega), bt_add (by omega) (by omega), h t ht]
  cases bt S' t <;> cases decide (t = b) <;> cases decide (t = j) <;> rfl
def PG (n : Nat) (E : Nat → Nat) (b : Nat) (du du' : Nat → Nat) (z' : Nat → Int32) (k k' : Nat) : Prop := k ≤ k' ∧ du b ≤ du' b ∧ E b - du b = (E b - du' b) + (du' b - du b) ∧ sumI (fun i => z' (276 + (k + i))) (k' - k) = nI (du' b - du b) ∧ ∀ t, t < n → t ≠ b → E t - du' t = E t - du t
theorem PG.refl (n : Nat) (E : Nat → Nat) (b : Nat) (du : Nat → Nat) (z : Nat → Int32) (k : Nat) : PG n E b du du z k k := ⟨Nat.le_refl _, Nat.le_refl _, by omega, by rw [Nat.sub_self, Nat.sub_self]; rfl, fun _ _ _ => rfl⟩
theorem PG.step {n : Nat} {E : Nat → Nat} {b : Nat} {du0 du du' : Nat → Nat} {z z' : Nat → Int32} {k0 k k' : Nat} (h : PG n E b du0 du z k0 k) (g : PROG n E b du du' z z' k k') : PG n E b du0 du' z' k0 k' := by
  rcases g with ⟨e1, e2, e3⟩ | ⟨e1, x, x1, x2, x3, x4, x5, x6⟩
  · rw [e1, e2, e3]; exact h
  · obtain ⟨h1, h2, h3, h4, h5⟩ := h
    refine ⟨by omega, by omega, by omega, ?_, fun t ht c => by rw [x6 t ht c, h5 t ht c]⟩
    rw [e1, show k + 1 - k0 = (k - k0) + 1 by omega, sumI, sumI_congr (g := fun i => z (276 + (k0 + i))) (fun t ht => x5 _ (by omega)), h4, show k0 + (k - k0) = k by omega, x4, nI_add]
    congr 1
    omega
theorem bc_bc {B : Blk} {o : Nat} {f g : Nat → Int32} : bc (bc B o f) o g = bc B o g := by
  funext q
  by_cases e : q = o
  · subst e; rw [bc_at, bc_at]
  · rw [bc_ne e, bc_ne e, bc_ne e]
theorem full_loop {P : PD} {E o du : Nat → Nat} {B Z : Blk} (h : TS P E o B Z du) {b : Nat} (hb : b < pn P) (hf : B 2 0 = nI 40) : ∀ m turn fuel S S', SS (pn P) b S S' → pn P - turn = m → turn ≤ pn P → m < fuel → FX2_buyFor_14 fuel (nI b) S (nI turn) B = some B := by
  have hn := h.1.n
  intro m
  induction m with
  | zero =>
    intro turn fuel S S' hS hm ht hfu
    obtain ⟨k, rfl⟩ : ∃ k, fuel = k + 1 := ⟨fuel - 1, by omega⟩
    show FX2_buyFor_14s _ _ _ _ _ = _
    unfold FX2_buyFor_14s
    rw [h.1.2.2.1.1, le_nI (by omega) (by omega), if_pos (by omega)]
  | succ m ih =>
    intro turn fuel S S' hS hm ht hfu
    obtain ⟨k, rfl⟩ : ∃ k, fuel = k + 1 := ⟨fuel - 1, by omega⟩
    show FX2_buyFor_14s (FX2_buyFor_14 k) _ _ _ _ = _
    unfold FX2_buyFor_14s
    obtain ⟨r, r1, r2, r3⟩ := seller_both h hS hb
    rw [h.1.2.2.1.1, le_nI (by omega) (by omega), if_neg (by omega), p_lateOf h.1 h.2.2.2 hb, c1_eq, r1, c1_eq]
    split
    · rfl
    · rcases r3 with e | ⟨j, hj, e, hj2⟩
      · rw [if_pos e]
      · subst e
        rw [if_neg (m6_ne (by omega)), lt1_eq]
        have full : FX2_buyFrom B (nI j) (nI b) = some B := buy_full h hb hj hf
        rw [full, c1_eq, lt1_eq, nI_1]
        exact ih (turn + 1) k _ _ (SS_add hn hj hS) (by omega) (by omega) (by omega)
theorem buy_loop {P : PD} {E o : Nat → Nat} {b : Nat} (hb : b < pn P) {du0 : Nat → Nat} {k0 : Nat} : ∀ m turn fuel fuel' S S' r B Z du k, TS P E o B Z du → SS (pn P) b S S' → cb S (pn P) = turn + 1 → FX2_bestSellerExcept B S = some r → FX6_nextOffer Z (nI b) S' = some r → (r = -6 ∨ ∃ j, j < pn P ∧ r = nI j ∧ bt S j = false) → pn P - turn = m → m < fuel → m < fuel' → Z 1 3 = nI k → k ≤ 40 → PG (pn P) E b du0 du (Z 1) k0 k →
    ∃ (B' : Blk) (z' : Nat → Int32) (du' : Nat → Nat) (k' : Nat), FX2_buyFor_14 fuel (nI b) S (nI turn) B = some B' ∧ FX6_buys_14 fuel' (nI b) S' r Z = some (bc Z 1 z') ∧ TS P E o B' (bc Z 1 z') du' ∧ B' 11 = B 11 ∧ z' 3 = nI k' ∧ k' ≤ 40 ∧ PG (pn P) E b du0 du' z' k0 k' := by
  intro m
  induction m with
  | zero =>
    intro turn fuel fuel' S S' r B Z du k h hS hc
    intros
    have := cb_le S (pn P)
    omega
  | succ m ih =>
    intro turn fuel fuel' S S' r B Z du k h hS hc r1 r2 r3 hm hfu hfu' hk hk4 hPG
    have hn := h.1.n
    obtain ⟨fk, rfl⟩ : ∃ k, fuel = k + 1 := ⟨fuel - 1, by omega⟩
    obtain ⟨k', rfl⟩ : ∃ k, fuel' = k + 1 := ⟨fuel' - 1, by omega⟩
    have hcb := cb_le S (pn P)
    have hE2 : ∀ t, t < pn P → E t < 1000000 := fun t ht => by have := h.1.E_le ht; omega
    have hB2 : B 2 0 = nI k := by
      obtain ⟨k'', -, x2, x3, -⟩ := h.1.2.2.2.2.2.2.2.2.2.2.2.2
      rw [x2, ← x3, hk]
    have eZ : bc Z 1 (Z 1) = Z := bc_self Z 1
    have hself : TS P E o B (bc Z 1 (Z 1)) du := by rw [eZ]; exact h
    have unf : FX2_buyFor_14 (fk + 1) (nI b) S (nI turn) B = FX2_buyFor_14s (FX2_buyFor_14 fk) (nI b) S (nI turn) B := rfl
    rw [unf]
    show ∃ (B' : Blk) (z' : Nat → Int32) (du' : Nat → Nat) (kk : Nat), _ ∧ FX6_buys_14s (FX6_buys_14 k') (nI b) S' r Z = _ ∧ _
    unfold FX2_buyFor_14s FX6_buys_14s
    rw [h.1.2.2.1.1, le_nI (by omega) (by omega), if_neg (by omega), p_lateOf h.1 h.2.2.2 hb, c1_eq, r1, c1_eq, q_late hn h.2.1 hE2 h.2.2.2 hb, c1_eq]
    have hl : E b - du b < 2 ^ 31 := by have := hE2 b hb; omega
    rw [if_nIle0 hl, if_nIle0 hl]
    rcases r3 with e | ⟨j, hj, e, hj2⟩
    · rw [if_pos e, if_pos e]
      refine ⟨B, Z 1, du, _, ?_, by rw [eZ], hself, rfl, hk, hk4, hPG⟩
      split <;> rfl
    · subst e
      rw [if_neg (m6_ne (by omega)), if_neg (m6_ne (by omega))]
      by_cases c0 : E b - du b = 0
      · rw [if_pos c0, if_pos c0]
        exact ⟨B, Z 1, du, _, rfl, by rw [eZ], hself, rfl, hk, hk4, hPG⟩
      · rw [if_neg c0, if_neg c0, lt1_eq, k3, ld_nI (by decide) (by decide), hk, show (40 : Int32) = nI 40 from rfl, le_nI (by decide) (by omega)]
        have hjb : j ≠ b := by
          intro e
          have := hS j hj
          rw [hj2, e, decide_eq_true rfl, Bool.or_true] at this
          exact absurd this (by decide)
        have hca := cb_add hn hj hj2
        have hcl := cb_le (S ||| ((1 : Int32) <<< (nI j &&& 31))) (pn P)
        rcases Nat.lt_or_ge k 40 with c40 | c40
        · rw [if_neg (by omega)]
          obtain ⟨B', z', du', kk, hh, s1, s2, s3, s4, s5, s6, s7⟩ := buy_step h hb hj hjb hk c40
          rw [s1, s2, c1_eq, c1_eq, lt1_eq]
          have hPG' := hPG.step s7
          have hkk : kk ≤ 40 := by rcases s7 with ⟨e, -, -⟩ | ⟨e, -⟩ <;> omega
          obtain ⟨r', q1, q2, q3⟩ := seller_both s4 (SS_add hn hj hS) hb
          have e60 : FX6_buys_60 (FX6_buys_14 k') (nI b) S' (nI j) (bc Z 1 z') = FX6_buys_14 k' (nI b) (S' ||| ((1 : Int32) <<< (nI j &&& 31))) r' (bc Z 1 z') := by
            unfold FX6_buys_60
            rw [lt1_eq, q2, c1_eq]
          have em : (if hh ≤ 0 then FX6_buys_60 (FX6_buys_14 k') (nI b) S' (nI j) Z else c1 (FX6_agree Z (nI b) (nI j) hh) fun B23 => FX6_buys_60 (FX6_buys_14 k') (nI b) S' (nI j) B23) = FX6_buys_14 k' (nI b) (S' ||| ((1 : Int32) <<< (nI j &&& 31))) r' (bc Z 1 z') := by
            rcases s3 with ⟨x1, x2⟩ | ⟨x1, x2⟩
            · rw [if_pos x1, ← e60, x2, eZ]
            · rw [if_neg x1, x2, c1_eq, e60]
          rw [em, nI_1]
          obtain ⟨B2, z2, du2, k2, t1, t2, t3, t4, t5, t6, t7⟩ := ih (turn + 1) fk k' _ _ r' B' (bc Z 1 z') du' kk s4 (SS_add hn hj hS) (by omega) q1 q2 q3 (by omega) (by omega) (by omega) (by rw [bc_at]; exact s6) hkk (by rw [bc_at]; exact hPG')
          rw [bc_bc] at t2 t3
          exact ⟨B2, z2, du2, k2, t1, t2, t3, by rw [t4, s5], t5, t6, t7⟩
        · rw [if_pos c40]
          have hf : B 2 0 = nI 40 := by rw [hB2, show k = 40 by omega]
          have full : FX2_buyFrom B (nI j) (nI b) = some B := buy_full h hb hj hf
          rw [full, c1_eq, lt1_eq, nI_1, full_loop h hb hf m (turn + 1) _ _ _ (SS_add hn hj hS) (by omega) (by omega) (by omega)]
          exact ⟨B, Z 1, du, _, rfl, by rw [eZ], hself, rfl, hk, hk4, hPG⟩
theorem RelP.o11 {B : Blk} {z : Nat → Int32} {P : PD} {E o : Nat → Nat} (h : RelP B z P E o) (L : Nat → Int32) : RelP (bc B 11 L) z P E o := by
  refine RelP_rest h (fun q hq => bc_ne (by omega)) (fun _ _ => rfl) ?_
  exact Rest_frame h.2.2.2.2.2.2.2 (by rw [bc_ne (by omega)]) (by rw [bc_ne (by omega)]) (by rw [bc_ne (by omega)]) (fun o h1 h2 => bc_ne (by omega)) rfl rfl rfl (fun _ _ => rfl) h.n
theorem buy_both {P : PD} {E o du : Nat → Nat} {B Z : Blk} {b k : Nat} (hR : RelP B (Z 1) P E o) (hE : ∀ t, t < pn P → Z 8 t = nI (E t)) (hD : DU (Z 1) (pn P) du) (hb : b < pn P) (hk : Z 1 3 = nI k) (hk4 : k ≤ 40) : ∃ (B' : Blk) (z' L : Nat → Int32) (du' : Nat → Nat) (k' : Nat), FX2_buyFor B (nI b) = some B' ∧ FX6_buys Z (nI b) = some (bc (bc Z 9 L) 1 z') ∧ TS P E o B' (bc (bc Z 9 L) 1 z') du' ∧ z' 3 = nI k' ∧ k' ≤ 40 ∧ PG (pn P) E b du du' z' k k' := by
  have hn := hR.n
  unfold FX2_buyFor FX6_buys
  have z1 : bc Z 9 (MF P b (Z 9)) 1 = Z 1 := bc_ne (by omega)
  have hT : TS P E o (bc B 11 (MF P b (B 11))) (bc Z 9 (MF P b (Z 9))) du := ⟨by rw [z1]; exact hR.o11 _, by rw [bc_ne (by omega)]; exact hE, by rw [bc_at, bc_at]; exact MF_AG b _ _, by rw [z1]; exact hD⟩
  have hS : SS (pn P) b ((1 : Int32) <<< (nI b &&& 31)) 0 := by
    intro t ht
    rw [bt_one (by omega) (by omega), b_0, Bool.false_or]
  obtain ⟨r, r1, r2, r3⟩ := seller_both hT hS hb
  rw [p_measureFrom hR.1 hR.2.2.1 hb, c1_eq, q_measure hR.1 hR.2.1 hb, c1_eq, lt1_eq, r2, c1_eq]
  obtain ⟨B', z', du', k', t1, t2, t3, t4, t5, t6, t7⟩ := buy_loop hb (du0 := du) (k0 := k) (pn P) 0 fu fu _ _ r _ _ du k hT hS (cb_one hn hb) r1 r2 r3 (by omega) (fu_gt (by omega)) (fu_gt (by omega)) (by rw [z1]; exact hk) hk4 (PG.refl _ _ _ _ _ _)
  exact ⟨B', z', _, du', k', t1, t2, t3, t5, t6, t7⟩
