/-! the law's times() -/
theorem times_loop {M : Mem} {P : PD} {E o y : Nat → Nat} (h : StB (M 0) P E o y) : ∀ m t fuel, pn P - t = m → t ≤ pn P → m < fuel → FL_times_10 fuel (nI (pn P)) (nI (sumN (fun u => E u - y (52 + u)) t)) (lset (fun u => E u - y (52 + u)) t) (nI (maxN E t)) (nI t) M = some (1, M) := by
  have hn := h.n
  intro m
  induction m with
  | zero =>
    intro t fuel hm ht hf
    obtain ⟨k, rfl⟩ : ∃ k, fuel = k + 1 := ⟨fuel - 1, by omega⟩
    have e : t = pn P := by omega
    subst e
    show FL_times_10s _ _ _ _ _ _ _ = _
    unfold FL_times_10s
    rw [le_nI (by omega) (by omega), if_pos (Nat.le_refl _), n0 h, c1_eq, if_pos rfl, n3 h, c1_eq, if_pos rfl, n4 h, c1_eq, if_pos rfl, n5 h, c1_eq, if_pos rfl, n12 h, c1_eq, n13 h, c1_eq, n14 h, c1_eq, n15 h, c1_eq, nI_add, nI_add, nI_add, cn_sum h.pl, if_pos rfl]
  | succ m ih =>
    intro t fuel hm ht hf
    obtain ⟨k, rfl⟩ : ∃ k, fuel = k + 1 := ⟨fuel - 1, by omega⟩
    have ht' : t < pn P := by omega
    obtain ⟨q1, q2, q3⟩ := h.Ele ht'
    have hEt := h.en t ht'
    have hpl := h.pl.2.1 t ht'
    have hc := cn_le h.pl (pm P t)
    have hfr := fr_or hn (P := P) t
    have hpa := pa_or h.pl ht'
    obtain ⟨a, ha⟩ : ∃ a, e0 E (fr P t) = a := ⟨_, rfl⟩
    obtain ⟨b, hb⟩ : ∃ b, e0 E (pa P t) = b := ⟨_, rfl⟩
    rw [ha, hb] at hEt
    have hab : max a b = E t - pd P t := by omega
    have hmx : maxN E t ≤ 2400 := maxN_le (fun u hu => (h.Ele (by omega)).2.1)
    have lx := l_sub (a := E t) (b := y (52 + t)) (by omega) (by omega)
    obtain ⟨x, hx⟩ : ∃ x, (nI (E t)).toInt64 - (nI (y (52 + t))).toInt64 = x := ⟨_, rfl⟩
    rw [hx] at lx
    -- the end of a round
    have g260 : FL_times_260 (FL_times_10 k) (nI (pn P)) (nI (sumN (fun u => E u - y (52 + u)) t)) (lset (fun u => E u - y (52 + u)) t) (nI (maxN E t)) (nI t) (nI (E t)) x M = some (1, M) := by
      have g287 : ∀ S, S = (if E t - y (52 + t) = 0 then 0 else (1 : Int32) <<< (nI t &&& 31)) → FL_times_287 (FL_times_10 k) (nI (pn P)) (nI (sumN (fun u => E u - y (52 + u)) (t + 1))) (nI (maxN E t)) (nI t) (nI (E t)) S (lset (fun u => E u - y (52 + u)) t) M = some (1, M) := by
        intro S hS
        have hl : lset (fun u => E u - y (52 + u)) t ||| S = lset (fun u => E u - y (52 + u)) (t + 1) := by rw [hS]; rfl
        have hmax : maxN E (t + 1) = max (maxN E t) (E t) := rfl
        unfold FL_times_287
        rw [lt1_eq, hl, lt1_eq, lt1_eq, le_nI (by omega) (by omega), nI_1]
        have hi := ih (t + 1) k (by omega) (by omega) (by omega)
        by_cases c : E t ≤ maxN E t
        · rw [if_pos c]
          rw [hmax, Nat.max_eq_left c] at hi
          exact hi
        · rw [if_neg c]
          rw [hmax, Nat.max_eq_right (by omega)] at hi
          exact hi
      unfold FL_times_260
      rw [o6 h ht', c2_eq, lt1_eq, nI_add]
      by_cases c : E t - y (52 + t) = 0
      · rw [if_pos ((lg_cmp_le _ _).mpr (Int64.le_iff_toInt_le.mpr (by rw [lx, l_0]; omega)))]
        exact g287 _ (by rw [if_pos c])
      · rw [if_neg (fun q => by have := Int64.le_iff_toInt_le.mp ((lg_cmp_le _ _).mp q); rw [lx, l_0] at this; omega)]
        exact g287 _ (by rw [if_neg c])
    have g237 : FL_times_237 (FL_times_10 k) (nI (pn P)) (nI (sumN (fun u => E u - y (52 + u)) t)) (lset (fun u => E u - y (52 + u)) t) (nI (maxN E t)) (nI t) (aI (pa P t)) (nI (E t)) x M = some (1, M) := by
      unfold FL_times_237
      rcases hpa with c | c
      · obtain ⟨R, r1, r2⟩ := o13 h c
        have rb : bt R t = true := by rw [r2 t (by omega)]; exact decide_eq_true ⟨ht', (fr_bhd h.pl c).mpr (Or.inr rfl)⟩
        rw [aI_lt (by omega), if_neg (nneg (by omega)), r1, c2_eq, bt_ite (by omega), if_pos rb]
        exact g260
      · rw [c, aI_99, if_pos (by decide)]
        exact g260
    have g187 : ∀ s0 s1 : Int64, s1 = s0 → FL_times_187 (FL_times_10 k) (nI (pn P)) (nI (sumN (fun u => E u - y (52 + u)) t)) (lset (fun u => E u - y (52 + u)) t) (nI (maxN E t)) (nI t) (aI (fr P t)) (aI (pa P t)) (nI (E t)) x s0 s1 M = some (1, M) := by
      intro s0 s1 hs
      unfold FL_times_187
      rw [if_pos ((lg_cmp_eq _ _).mpr hs), o0 h ht', c2_eq, o3 h ht', c2_eq, r_atn h hpl.1 (by omega), c1_eq, ra_of h.pl ht', aI_lt (by omega), if_pos rfl]
      rcases hfr with c | c
      · obtain ⟨R, r1, r2⟩ := o13 h c
        have rb : bt R t = true := by rw [r2 t (by omega)]; exact decide_eq_true ⟨ht', (fr_bhd h.pl c).mpr (Or.inl rfl)⟩
        rw [aI_lt (a := fr P t) (by omega), if_neg (nneg (by omega)), r1, c2_eq, bt_ite (by omega), if_pos rb]
        exact g237
      · rw [c, aI_99, if_pos (by decide)]
        exact g237
    have g160 : ∀ s0 s1 : Int64, s1 = s0 → FL_times_160 (FL_times_10 k) (nI (pn P)) (nI (sumN (fun u => E u - y (52 + u)) t)) (lset (fun u => E u - y (52 + u)) t) (nI (maxN E t)) (nI t) (aI (fr P t)) (aI (pa P t)) (nI (E t)) x s0 s1 M = some (1, M) := by
      intro s0 s1 hs
      unfold FL_times_160
      rw [if_pos ((lg_cmp_eq _ _).mpr hs), o7 h ht', c2_eq]
      by_cases c : y (52 + t) ≤ E t
      · rw [if_pos ((lg_cmp_ge _ _).mpr (Int64.le_iff_toInt_le.mpr (by rw [lx, l_0]; omega)))]
        exact g187 _ _ (Int64.toInt_inj.mp (by rw [l_nI (by omega), l_0]; omega))
      · rw [if_neg (fun q => by have := Int64.le_iff_toInt_le.mp ((lg_cmp_ge _ _).mp q); rw [lx, l_0] at this; omega)]
        exact g187 _ _ (Int64.toInt_inj.mp (by rw [l_nI (by omega), l_neg (by omega) (by omega), lx]; omega))
    have g115 : ∀ s0, s0 = nI (E t - pd P t) → FL_times_115 (FL_times_10 k) (nI (pn P)) (nI (sumN (fun u => E u - y (52 + u)) t)) (lset (fun u => E u - y (52 + u)) t) (nI (maxN E t)) (nI t) (aI (fr P t)) (aI (pa P t)) (nI (E t)) x s0 (nI (E t - pd P t)) M = some (1, M) := by
      intro s0 hs
      unfold FL_times_115
      rw [if_pos hs.symm, o4 h ht', c2_eq, o1 h ht', c2_eq, nI_add, Nat.sub_add_cancel q1, if_pos rfl, o6 h ht', c2_eq]
      by_cases c : E t ≤ y (52 + t)
      · rw [if_pos ((lg_cmp_le _ _).mpr (Int64.le_iff_toInt_le.mpr (by rw [lx, l_0]; omega)))]
        exact g160 _ _ (Int64.toInt_inj.mp (by rw [l_nI (by omega), l_0]; omega))
      · rw [if_neg (fun q => by have := Int64.le_iff_toInt_le.mp ((lg_cmp_le _ _).mp q); rw [lx, l_0] at this; omega)]
        exact g160 _ _ (Int64.toInt_inj.mp (by rw [l_nI (by omega), lx]; omega))
    have g71 : FL_times_71 (FL_times_10 k) (nI (pn P)) (nI (sumN (fun u => E u - y (52 + u)) t)) (lset (fun u => E u - y (52 + u)) t) (nI (maxN E t)) (nI t) (aI (fr P t)) (aI (pa P t)) (nI a) (nI b) M = some (1, M) := by
      have h1 : a < 2 ^ 31 := by omega
      have h2 : b < 2 ^ 31 := by omega
      unfold FL_times_71
      rw [o5 h ht', c2_eq, r_due h ht', c1_eq, lt1_eq, hx, o4 h ht', c2_eq, le_nI h1 h2]
      by_cases c : a ≤ b
      · rw [if_pos c]
        exact g115 _ (by rw [← hab, Nat.max_eq_right c])
      · rw [if_neg c]
        exact g115 _ (by rw [← hab, Nat.max_eq_left (by omega)])
    have g51 : FL_times_51 (FL_times_10 k) (nI (pn P)) (nI (sumN (fun u => E u - y (52 + u)) t)) (lset (fun u => E u - y (52 + u)) t) (nI (maxN E t)) (nI t) (aI (fr P t)) (aI (pa P t)) (nI a) M = some (1, M) := by
      unfold FL_times_51
      have := e0_read h hpa (fun r M' => FL_times_71 (FL_times_10 k) (nI (pn P)) (nI (sumN (fun u => E u - y (52 + u)) t)) (lset (fun u => E u - y (52 + u)) t) (nI (maxN E t)) (nI t) (aI (fr P t)) (aI (pa P t)) (nI a) r M')
      rw [hb] at this
      exact this.trans g71
    show FL_times_10s _ _ _ _ _ _ _ = _
    unfold FL_times_10s
    rw [le_nI (by omega) (by omega), if_neg (by omega), l_before h ht', c2_eq, o2 h ht', c2_eq]
    have := e0_read h hfr (fun r M' => FL_times_51 (FL_times_10 k) (nI (pn P)) (nI (sumN (fun u => E u - y (52 + u)) t)) (lset (fun u => E u - y (52 + u)) t) (nI (maxN E t)) (nI t) (aI (fr P t)) (aI (pa P t)) r M')
    rw [ha] at this
    exact this.trans g51
theorem l_times {M : Mem} {P : PD} {E o y : Nat → Nat} (h : StB (M 0) P E o y) : FL_times M (nI (pn P)) = some (1, M) := by
  have hn := h.n
  unfold FL_times
  exact times_loop h (pn P) 0 fu (by omega) (by omega) (fu_gt (by omega))
