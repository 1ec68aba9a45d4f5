/-! the class's reader: pairs, tasks, orders -/
theorem r_num {T : TX} {s : St} : (tNum T s).2.2.1 ≤ s.2.2.1 + 1 := by
  unfold tNum
  by_cases c1 : s.1 = 0
  · rw [if_pos c1]; omega
  · rw [if_neg c1]
    by_cases c2 : isDg T s.2.1
    · rw [if_pos c2]; exact Nat.le_refl _
    · rw [if_neg c2]; exact Nat.le_succ _
theorem r_sign {T : TX} {c : Nat} {s : St} : (tSign T c s).2.2.1 = s.2.2.1 := by
  unfold tSign
  by_cases c1 : s.1 = 0
  · rw [if_pos c1]
  · rw [if_neg c1]
    by_cases c2 : ch T s.2.1 = c
    · rw [if_pos c2]
    · rw [if_neg c2]
theorem nI10 : ¬ nI 1 = 0 := by decide
theorem nI00 : nI 0 = 0 := rfl
theorem c_pair {T : TX} {X0 X : Blk} {kd : Int32} {s : St} {c : Nat} (hT : TOK T) (h0 : XT T X0) (h : XS T X0 kd X s) (hf : s.1 = 1) (hr : s.2.2.1 < 4) (hc : c ≠ 0 ∧ c ≤ 126) : ∃ X' : Blk, FX3_readPair X (nI c) = some (nI (tPair T c s).1, X') ∧ XS T X0 kd X' (tPair T c s) := by
  obtain ⟨X1, a1, a2⟩ := c_num hT h0 h hf (by omega)
  unfold FX3_readPair tPair
  rw [a1, c2_eq]
  have q1 := r_num (T := T) (s := s)
  rcases f01_num (T := T) (Or.inr hf) with e | e
  · rw [e, if_pos nI00, tSign_0 e, tNum_0 e, e]
    exact ⟨X1, rfl, a2⟩
  · obtain ⟨X2, b1, b2⟩ := c_sign hT h0 a2 e hc
    rw [e, if_neg nI10, b1, c2_eq]
    have q2 := r_sign (T := T) (c := c) (s := tNum T s)
    rcases f01_sign (T := T) (c := c) (Or.inr e) with e2 | e2
    · rw [e2, if_pos nI00, tNum_0 e2, e2]
      exact ⟨X2, rfl, b2⟩
    · obtain ⟨X3, d1, d2⟩ := c_num hT h0 b2 e2 (by omega)
      rw [e2, if_neg nI10, d1, c2_eq]
      rcases f01_num (T := T) (Or.inr e2) with e3 | e3
      · rw [e3, if_pos nI00]
        exact ⟨X3, rfl, d2⟩
      · rw [e3, if_neg nI10]
        exact ⟨X3, rfl, d2⟩
theorem c_opt {T : TX} {X0 X : Blk} {kd : Int32} {s : St} (hT : TOK T) (h0 : XT T X0) (h : XS T X0 kd X s) (hf : s.1 = 1) (hr : s.2.2.1 < 5) : ∃ X' : Blk, FX3_readTask_71 1 X = some (nI (tOpt T s).1, X') ∧ XS T X0 kd X' (tOpt T s) := by
  obtain ⟨f, i, r, a⟩ := s
  have hf' : f = 1 := hf
  subst hf'
  have hr' : r < 5 := hr
  have hh : FX3_here X = some (nI (ch T i)) := c_here hT (h.xt h0) h.2.2.1 h.2.2.2.2.2.1
  have hl := ch_le hT i
  unfold FX3_readTask_71 tOpt
  rw [if_neg (show ¬ (1 : Int32) = 0 by decide), hh, c1_eq, if_neg (show ¬ (1 : Nat) = 0 by omega), show (94 : Int32) = nI 94 from rfl, eq_nI (by omega) (by omega)]
  by_cases c : ch T i = 94
  · rw [if_pos c, if_pos c]
    obtain ⟨X1, a1, a2⟩ := c_sign (c := 94) hT h0 h rfl (by omega)
    have e : tSign T 94 (1, i, r, a) = (1, i + 1, r, a) := by
      unfold tSign
      rw [if_neg (show ¬ (1 : Nat) = 0 by omega), if_pos c]
    rw [e] at a1 a2
    obtain ⟨X2, b1, b2⟩ := c_num hT h0 a2 rfl hr'
    rw [a1, c2_eq, if_neg nI10, b1, c2_eq]
    show ∃ X' : Blk, _ = some (nI (tNum T (1, i + 1, r, a)).1, X') ∧ XS T X0 kd X' (tNum T (1, i + 1, r, a))
    rcases f01_num (T := T) (s := (1, i + 1, r, a)) (Or.inr rfl) with e3 | e3
    · rw [e3, if_pos nI00]
      exact ⟨X2, rfl, b2⟩
    · rw [e3, if_neg nI10]
      exact ⟨X2, rfl, b2⟩
  · rw [if_neg c, if_neg c]
    obtain ⟨X1, a1, a2⟩ := c_keep (v := -6) h hr'
    unfold FX3_readTask_107
    rw [if_neg (show ¬ (1 : Int32) = 0 by decide), a1, c2_eq, if_neg (show ¬ (1 : Int32) = 0 by decide)]
    exact ⟨X1, rfl, a2⟩
theorem c_mach {T : TX} {X0 X : Blk} {kd : Int32} {s : St} (hT : TOK T) (h0 : XT T X0) (h : XS T X0 kd X s) (hf : s.1 = 1) (hr : s.2.2.1 < 5) (K : Int32 → Blk → Option (Int32 × Blk)) (hK : ∀ B, K 0 B = some (0, B)) : ∃ X' : Blk, (c1 (FX3_here X) fun r1 => if 51 < r1 then some (0, X) else c2 (FX3_readDigit X) fun r4 B6 => K r4 B6) = K (nI (tMach T s).1) X' ∧ XS T X0 kd X' (tMach T s) := by
  obtain ⟨f, i, r, a⟩ := s
  have hf' : f = 1 := hf
  subst hf'
  have hd := c_digit hT (h.xt h0) h.2.2.1 h.2.2.2.2.2.1
  have hh : FX3_here X = some (nI (ch T i)) := c_here hT (h.xt h0) h.2.2.1 h.2.2.2.2.2.1
  have hl := ch_le hT i
  unfold tMach
  rw [if_neg (show ¬ (1 : Nat) = 0 by omega), hh, c1_eq, show (51 : Int32) = nI 51 from rfl, lt_nI (by omega) (by omega)]
  by_cases c : 51 < ch T i
  · rw [if_pos c, if_neg (show ¬ (48 ≤ ch T i ∧ ch T i ≤ 51) by omega)]
    exact ⟨X, (hK X).symm, h⟩
  · rw [if_neg c]
    unfold FX3_readDigit
    by_cases c1 : isDg T i
    · have c1' := c1
      unfold isDg at c1'
      have hin := isDg_in c1
      rw [if_pos (show 48 ≤ ch T i ∧ ch T i ≤ 51 by omega), hd.1 c1, c1_eq, if_neg (show ¬ (1 : Int32) = 0 by decide), hh, c1_eq, lt1_eq, lt1_eq, h.2.2.1, nI_1, show (48 : Int32) = nI 48 from rfl, nI_sub (by omega)]
      have hX' : XS T X0 kd (bs X 5 2 (nI (i + 1))) (1, i + 1, r, a) := ⟨fun q h5 h7 => by rw [bs_o h5]; exact h.1 q h5 h7, by rw [bs_kn (by omega)]; exact h.2.1, bs_kk, by rw [bs_kn (by omega)]; exact h.2.2.2.1, by rw [bs_kn (by omega)]; exact h.2.2.2.2.1, hin, fun j hj => by rw [bs_o (by omega)]; exact h.2.2.2.2.2.2 j hj⟩
      obtain ⟨X'', k1', k2'⟩ := c_keep (v := nI (ch T i - 48)) hX' hr
      refine ⟨X'', ?_, k2'⟩
      rw [k1', c2_eq, rZ_1, c2_eq]
      rfl
    · rw [if_neg (show ¬ (48 ≤ ch T i ∧ ch T i ≤ 51) by unfold isDg at c1; omega), hd.2 c1, c1_eq, if_pos rfl, c2_eq]
      exact ⟨X, rfl, h⟩
theorem r_mach {T : TX} {s : St} : (tMach T s).2.2.1 ≤ s.2.2.1 + 1 := by
  unfold tMach
  by_cases c1 : s.1 = 0
  · rw [if_pos c1]; omega
  · rw [if_neg c1]
    by_cases c2 : 48 ≤ ch T s.2.1 ∧ ch T s.2.1 ≤ 51
    · rw [if_pos c2]; exact Nat.le_refl _
    · rw [if_neg c2]; exact Nat.le_succ _
theorem f01_mach {T : TX} {s : St} (h : s.1 = 0 ∨ s.1 = 1) : (tMach T s).1 = 0 ∨ (tMach T s).1 = 1 := by
  unfold tMach
  by_cases c1 : s.1 = 0
  · rw [if_pos c1]; exact h
  · rw [if_neg c1]
    by_cases c2 : 48 ≤ ch T s.2.1 ∧ ch T s.2.1 ≤ 51
    · rw [if_pos c2]; exact Or.inr rfl
    · rw [if_neg c2]; exact Or.inl rfl
/-- a sign and a number, in a task's order -/
theorem c_sn {T : TX} {X0 X : Blk} {kd : Int32} {s : St} {c : Nat} (hT : TOK T) (h0 : XT T X0) (h : XS T X0 kd X s) (hf : s.1 = 1) (hr : s.2.2.1 < 5) (hc : c ≠ 0 ∧ c ≤ 126) (K : Blk → Option (Int32 × Blk)) : ∃ X' : Blk, (c2 (FX3_readSign X (nI c)) fun r8 B10 => if r8 = 0 then FX3_readTask_70 B10 else c2 (FX3_readNumber B10) fun r29 B31 => if r29 = 0 then FX3_readTask_70 B31 else K B31) = (if (tNum T (tSign T c s)).1 = 0 then some (0, X') else K X') ∧ XS T X0 kd X' (tNum T (tSign T c s)) := by
  have e70 : ∀ B, FX3_readTask_70 B = some (0, B) := fun B => by
    unfold FX3_readTask_70 FX3_readTask_71 FX3_readTask_107
    rw [if_pos rfl, if_pos rfl]
  obtain ⟨X1, a1, a2⟩ := c_sign hT h0 h hf hc
  rw [a1, c2_eq]
  have q2 := r_sign (T := T) (c := c) (s := s)
  rcases f01_sign (T := T) (c := c) (Or.inr hf) with e | e
  · rw [tNum_0 e, e]
    exact ⟨X1, by rw [if_pos nI00, if_pos rfl, e70], a2⟩
  · obtain ⟨X2, b1, b2⟩ := c_num hT h0 a2 e (by omega)
    rw [e, if_neg nI10, b1, c2_eq]
    rcases f01_num (T := T) (Or.inr e) with e3 | e3
    · rw [e3]
      exact ⟨X2, by rw [if_pos nI00, if_pos rfl, e70], b2⟩
    · rw [e3]
      exact ⟨X2, by rw [if_neg nI10, if_neg (show ¬ (1 : Nat) = 0 by omega)], b2⟩
theorem c_task {T : TX} {X0 X : Blk} {kd : Int32} {s : St} (hT : TOK T) (h0 : XT T X0) (h : XS T X0 kd X s) (hf : s.1 = 1) (hr : s.2.2.1 = 0) : ∃ X' : Blk, FX3_readTask X = some (nI (tTask T s).1, X') ∧ XS T X0 kd X' (tTask T s) := by
  unfold FX3_readTask tTask
  obtain ⟨X1, a1, a2⟩ := c_mach hT h0 h hf (by omega) (fun r4 B6 => if r4 = 0 then some (0, B6) else
      c2 (FX3_readSign B6 47) fun r8 B10 => if r8 = 0 then FX3_readTask_70 B10 else c2 (FX3_readNumber B10) fun r29 B31 => if r29 = 0 then FX3_readTask_70 B31 else
          c2 (FX3_readSign B31 60) fun r33 B35 => if r33 = 0 then FX3_readTask_70 B35 else c2 (FX3_readNumber B35) fun r37 B39 => if r37 = 0 then FX3_readTask_70 B39 else
              c2 (FX3_readSign B39 36) fun r41 B43 => if r41 = 0 then FX3_readTask_70 B43 else c2 (FX3_readNumber B43) fun r45 B47 => if r45 = 0 then FX3_readTask_70 B47 else FX3_readTask_71 1 B47) (fun B => if_pos rfl)
  rw [a1]
  have q0 := r_mach (T := T) (s := s)
  rcases f01_mach (T := T) (Or.inr hf) with e | e
  · rw [tSign_0 e, tNum_0 e, tSign_0 e, tNum_0 e, tSign_0 e, tNum_0 e, tOpt_0 e, e]
    exact ⟨X1, if_pos rfl, a2⟩
  · rw [e, if_neg nI10]
    obtain ⟨X2, b1, b2⟩ := c_sn (c := 47) hT h0 a2 e (by omega) (by omega) (fun B31 => c2 (FX3_readSign B31 60) fun r33 B35 => if r33 = 0 then FX3_readTask_70 B35 else c2 (FX3_readNumber B35) fun r37 B39 => if r37 = 0 then FX3_readTask_70 B39 else
              c2 (FX3_readSign B39 36) fun r41 B43 => if r41 = 0 then FX3_readTask_70 B43 else c2 (FX3_readNumber B43) fun r45 B47 => if r45 = 0 then FX3_readTask_70 B47 else FX3_readTask_71 1 B47)
    rw [show (47 : Int32) = nI 47 from rfl, b1]
    have q1 := r_num (T := T) (s := tSign T 47 (tMach T s))
    rw [r_sign] at q1
    rcases f01_num (T := T) (s := tSign T 47 (tMach T s)) (f01_sign (Or.inr e)) with e1 | e1
    · rw [tSign_0 e1, tNum_0 e1, tSign_0 e1, tNum_0 e1, tOpt_0 e1, e1]
      exact ⟨X2, if_pos rfl, b2⟩
    · rw [if_neg (show ¬ (tNum T (tSign T 47 (tMach T s))).1 = 0 by omega)]
      obtain ⟨X3, d1, d2⟩ := c_sn (c := 60) hT h0 b2 e1 (by omega) (by omega) (fun B39 => c2 (FX3_readSign B39 36) fun r41 B43 => if r41 = 0 then FX3_readTask_70 B43 else c2 (FX3_readNumber B43) fun r45 B47 => if r45 = 0 then FX3_readTask_70 B47 else FX3_readTask_71 1 B47)
      rw [show (60 : Int32) = nI 60 from rfl, d1]
      have q2 := r_num (T := T) (s := tSign T 60 (tNum T (tSign T 47 (tMach T s))))
      rw [r_sign] at q2
      rcases f01_num (T := T) (s := tSign T 60 (tNum T (tSign T 47 (tMach T s)))) (f01_sign (Or.inr e1)) with e2 | e2
      · rw [tSign_0 e2, tNum_0 e2, tOpt_0 e2, e2]
        exact ⟨X3, if_pos rfl, d2⟩
      · rw [if_neg (show ¬ (tNum T (tSign T 60 (tNum T (tSign T 47 (tMach T s))))).1 = 0 by omega)]
        obtain ⟨X4, g1, g2⟩ := c_sn (c := 36) hT h0 d2 e2 (by omega) (by omega) (fun B47 => FX3_readTask_71 1 B47)
        rw [show (36 : Int32) = nI 36 from rfl, g1]
        have q3 := r_num (T := T) (s := tSign T 36 (tNum T (tSign T 60 (tNum T (tSign T 47 (tMach T s))))))
        rw [r_sign] at q3
        rcases f01_num (T := T) (s := tSign T 36 (tNum T (tSign T 60 (tNum T (tSign T 47 (tMach T s)))))) (f01_sign (Or.inr e2)) with e3 | e3
        · rw [tOpt_0 e3, e3]
          exact ⟨X4, if_pos rfl, g2⟩
        · rw [if_neg (show ¬ (tNum T (tSign T 36 (tNum T (tSign T 60 (tNum T (tSign T 47 (tMach T s))))))).1 = 0 by omega)]
          exact c_opt hT h0 g2 e3 (by omega)
theorem ne_nI {a b : Nat} {h : Decidable (nI a = nI b)} {α : Type} {x y : α} (ha : a < 2 ^ 31) (hb : b < 2 ^ 31) (c : a ≠ b) : (if nI a = nI b then x else y) = y := if_neg (fun q => c ((nI_eq ha hb).mp q))
theorem c_order {T : TX} {X : Blk} {i : Nat} (hT : TOK T) (hX : XT T X) (hp : X 5 2 = nI i) (hi : i ≤ T.1) : ∃ X' : Blk, FX3_readOrder X = some (nI (ordr T i).1, X') ∧ XS T X (nI (ch T i)) X' (ordr T i) := by
  have hl := ch_le hT i
  have hX1 : XT T (bs X 5 5 0) := ⟨by rw [bs_kn (by omega)]; exact hX.1, fun j hj => by rw [bs_o (by omega)]; exact hX.2 j hj⟩
  have hh := c_here hT hX1 (i := i) (by rw [bs_kn (by omega)]; exact hp) hi
  unfold FX3_readOrder ordr
  rw [lt1_eq, hh, c1_eq, lt1_eq, bs_kk]
  obtain ⟨B5, hB5⟩ : ∃ B5, bs (bs X 5 5 0) 5 3 (nI (ch T i)) = B5 := ⟨_, rfl⟩
  rw [hB5]
  have hs : XS T X (nI (ch T i)) B5 (st0 i) := by
    rw [← hB5]
    exact ⟨fun q h5 h7 => by rw [bs_o h5, bs_o h5], by rw [bs_kn (by omega), bs_kn (by omega)], by rw [bs_kn (by omega), bs_kn (by omega)]; exact hp, bs_kk, by rw [bs_kn (by omega), bs_kk]; rfl, hi, fun j hj => absurd hj (Nat.not_lt_zero j)⟩
  have first : ∀ c, c ≠ 0 → c ≤ 126 → ch T i = c → ∃ X1 : Blk, FX3_readSign B5 (nI c) = some (nI 1, X1) ∧ XS T X (nI (ch T i)) X1 (st0 (i + 1)) := by
    intro c h0 h1 e
    obtain ⟨X1, a1, a2⟩ := c_sign (c := c) hT hX hs rfl ⟨h0, h1⟩
    have e2 : tSign T c (st0 i) = st0 (i + 1) := by
      unfold tSign
      exact (if_neg (show ¬ (1 : Nat) = 0 by omega)).trans (if_pos e)
    rw [e2] at a1 a2
    exact ⟨X1, a1, a2⟩
  have fin : ∀ (t : St) (C : Option (Int32 × Blk)), (t.1 = 0 ∨ t.1 = 1) → (∃ X' : Blk, C = some (nI t.1, X') ∧ XS T X (nI (ch T i)) X' t) → ∃ X' : Blk, (c2 C fun r12 B14 => if r12 = 0 then some (0, B14) else some (1, B14)) = some (nI t.1, X') ∧ XS T X (nI (ch T i)) X' t := by
    intro t C ht hC
    obtain ⟨X', a1, a2⟩ := hC
    rw [a1, c2_eq]
    rcases ht with e | e
    · rw [e]; exact ⟨X', if_pos rfl, a2⟩
    · rw [e]; exact ⟨X', if_neg nI10, a2⟩
  have f01p : ∀ c (s : St), s.1 = 1 → (tPair T c s).1 = 0 ∨ (tPair T c s).1 = 1 := fun c s h => f01_num (f01_sign (f01_num (Or.inr h)))
  by_cases e1 : ch T i = 100
  · obtain ⟨X1, a1, a2⟩ := first 100 (by omega) (by omega) e1
    rw [if_pos (by rw [e1]; rfl), if_pos e1, show (100 : Int32) = nI 100 from rfl, a1, c2_eq, if_neg nI10]
    exact fin _ _ (f01p _ _ rfl) (c_pair (c := 61) hT hX a2 rfl (show 0 < 4 by omega) (by omega))
  · rw [show (100 : Int32) = nI 100 from rfl, ne_nI (by omega) (by omega) e1, if_neg e1]
    by_cases e2 : ch T i = 109
    · obtain ⟨X1, a1, a2⟩ := first 109 (by omega) (by omega) e2
      rw [if_pos (by rw [e2]; rfl), if_pos e2, show (109 : Int32) = nI 109 from rfl, a1, c2_eq, if_neg nI10]
      exact fin _ _ (f01p _ _ rfl) (c_pair (c := 58) hT hX a2 rfl (show 0 < 4 by omega) (by omega))
    · rw [show (109 : Int32) = nI 109 from rfl, ne_nI (by omega) (by omega) e2, if_neg e2]
      by_cases e3 : ch T i = 111
      · obtain ⟨X1, a1, a2⟩ := first 111 (by omega) (by omega) e3
        rw [if_pos (by rw [e3]; rfl), if_pos e3, show (111 : Int32) = nI 111 from rfl, a1, c2_eq, if_neg nI10]
        obtain ⟨X2, b1, b2⟩ := c_pair (c := 42) hT hX a2 rfl (show 0 < 4 by omega) (by omega)
        rw [show (42 : Int32) = nI 42 from rfl, b1, c2_eq]
        rcases f01p 42 (st0 (i + 1)) rfl with e | e
        · rw [tSign_0 e, tNum_0 e, e]
          exact ⟨X2, if_pos rfl, b2⟩
        · rw [e, if_neg nI10]
          obtain ⟨X3, d1, d2⟩ := c_sign (c := 64) hT hX b2 e (by omega)
          rw [show (64 : Int32) = nI 64 from rfl, d1, c2_eq]
          rcases f01_sign (T := T) (c := 64) (Or.inr e) with e4 | e4
          · rw [tNum_0 e4, e4]
            exact ⟨X3, if_pos rfl, d2⟩
          · rw [e4, if_neg nI10]
            refine fin _ _ (f01_num (Or.inr e4)) (c_num hT hX d2 e4 ?_)
            rw [r_sign]
            have g1 := r_num (T := T) (s := tSign T 42 (tNum T (st0 (i + 1))))
            have g2 := r_num (T := T) (s := st0 (i + 1))
            rw [r_sign] at g1
            have g3 : (st0 (i + 1)).2.2.1 = 0 := rfl
            show (tNum T (tSign T 42 (tNum T (st0 (i + 1))))).2.2.1 < 5
            omega
      · rw [show (111 : Int32) = nI 111 from rfl, ne_nI (by omega) (by omega) e3, if_neg e3]
        by_cases e4 : ch T i = 114
        · obtain ⟨X1, a1, a2⟩ := first 114 (by omega) (by omega) e4
          rw [if_pos (by rw [e4]; rfl), if_pos e4, show (114 : Int32) = nI 114 from rfl, a1, c2_eq, if_neg nI10]
          exact fin _ _ (f01p _ _ rfl) (c_pair (c := 42) hT hX a2 rfl (show 0 < 4 by omega) (by omega))
        · rw [show (114 : Int32) = nI 114 from rfl, ne_nI (by omega) (by omega) e4, if_neg e4]
          by_cases e5 : ch T i = 116
          · obtain ⟨X1, a1, a2⟩ := first 116 (by omega) (by omega) e5
            rw [if_pos (by rw [e5]; rfl), if_pos e5, show (116 : Int32) = nI 116 from rfl, a1, c2_eq, if_neg nI10]
            refine fin _ _ ?_ (c_task hT hX a2 rfl rfl)
            unfold tTask tOpt
            by_cases z : (tNum T (tSign T 36 (tNum T (tSign T 60 (tNum T (tSign T 47 (tMach T (st0 (i + 1))))))))).1 = 0
            · rw [if_pos z]; exact Or.inl z
            · rw [if_neg z]
              by_cases z2 : ch T (tNum T (tSign T 36 (tNum T (tSign T 60 (tNum T (tSign T 47 (tMach T (st0 (i + 1))))))))).2.1 = 94
              · rw [if_pos z2]; exact f01_num (Or.inr rfl)
              · rw [if_neg z2]; exact Or.inr rfl
          · rw [show (116 : Int32) = nI 116 from rfl, ne_nI (by omega) (by omega) e5, if_neg e5]
            obtain ⟨X1, a1, a2⟩ := c_sign (c := 120) hT hX hs rfl (by omega)
            rw [show (120 : Int32) = nI 120 from rfl, a1, c2_eq]
            rcases f01_sign (T := T) (c := 120) (s := st0 i) (Or.inr rfl) with e | e
            · rw [e]; exact ⟨X1, rfl, a2⟩
            · rw [e]; exact ⟨X1, rfl, a2⟩
