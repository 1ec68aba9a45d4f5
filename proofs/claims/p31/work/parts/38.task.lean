/-! task: one more task, last in its row -/
theorem cnt_congr {f g : Nat → Nat} {n m : Nat} (h : ∀ t, t < n → f t = g t) : cnt f n m = cnt g n m := by
  induction n with
  | zero => rfl
  | succ n ih => rw [cnt, cnt, ih (fun t ht => h t (by omega)), h n (by omega)]
theorem rowAt_congr {f g p q : Nat → Nat} {n m x : Nat} (h : ∀ t, t < n → f t = g t ∧ p t = q t) : rowAt f p n m x = rowAt g q n m x := by
  induction n with
  | zero => rfl
  | succ n ih => rw [rowAt, rowAt, ih (fun t ht => h t (by omega)), (h n (by omega)).1, (h n (by omega)).2]
def tk (P : PD) (m d a : Nat) : PD := (pn P + 1, u1 (pm P) (pn P) m, u1 (pp P) (pn P) (cn P m), u1 (pa P) (pn P) a, u1 (pd P) (pn P) d)
theorem tk_old {P : PD} {m d a t : Nat} (h : t ≠ pn P) : pm (tk P m d a) t = pm P t ∧ pp (tk P m d a) t = pp P t ∧ pa (tk P m d a) t = pa P t ∧ pd (tk P m d a) t = pd P t := ⟨u1_ne h, u1_ne h, u1_ne h, u1_ne h⟩
theorem tk_new {P : PD} {m d a : Nat} : pm (tk P m d a) (pn P) = m ∧ pp (tk P m d a) (pn P) = cn P m ∧ pa (tk P m d a) (pn P) = a ∧ pd (tk P m d a) (pn P) = d := ⟨u1_at, u1_at, u1_at, u1_at⟩
theorem tk_cn {P : PD} {m d a m' : Nat} : cn (tk P m d a) m' = cn P m' + (if m = m' then 1 else 0) := by
  show cnt (pm (tk P m d a)) (pn P + 1) m' = _
  rw [cnt, tk_new.1, cnt_congr (g := pm P) (fun t ht => (tk_old (by omega)).1)]
  rfl
theorem tk_pln {P : PD} (hP : Pln P) {m d a : Nat} (hn : pn P < 24) (hm : m < 4) (hd0 : 1 ≤ d) (hd : d ≤ 100) (ha : a < pn P ∨ a = 99) : Pln (tk P m d a) := by
  obtain ⟨h1, h2, h3, h4⟩ := hP
  refine ⟨by show pn P + 1 ≤ 24; omega, fun t ht => ?_, fun t u ht hu e1 e2 => ?_, fun m' p hm' hp => ?_⟩
  · have ht : t < pn P + 1 := ht
    by_cases c : t = pn P
    · subst c
      rw [tk_new.1, tk_new.2.1, tk_new.2.2.1, tk_new.2.2.2, tk_cn, if_pos rfl]
      exact ⟨hm, hd0, hd, ha, by omega⟩
    · obtain ⟨o1, o2, o3, o4⟩ := tk_old (m := m) (d := d) (a := a) c
      obtain ⟨g1, g2, g3, g4, g5⟩ := h2 t (by omega)
      rw [o1, o2, o3, o4, tk_cn]
      exact ⟨g1, g2, g3, g4, by omega⟩
  · have ht : t < pn P + 1 := ht
    have hu : u < pn P + 1 := hu
    by_cases c : t = pn P
    · by_cases c2 : u = pn P
      · omega
      · obtain ⟨o1, o2, -, -⟩ := tk_old (m := m) (d := d) (a := a) c2
        rw [o1, c, tk_new.1] at e1
        rw [o2, c, tk_new.2.1] at e2
        have := (h2 u (by omega)).2.2.2.2
        rw [← e1] at this
        omega
    · obtain ⟨o1, o2, -, -⟩ := tk_old (m := m) (d := d) (a := a) c
      by_cases c2 : u = pn P
      · rw [o1, c2, tk_new.1] at e1
        rw [o2, c2, tk_new.2.1] at e2
        have := (h2 t (by omega)).2.2.2.2
        rw [e1] at this
        omega
      · obtain ⟨o1', o2', -, -⟩ := tk_old (m := m) (d := d) (a := a) c2
        rw [o1, o1'] at e1
        rw [o2, o2'] at e2
        exact h3 t u (by omega) (by omega) e1 e2
  · rw [tk_cn] at hp
    by_cases c : p < cn P m'
    · obtain ⟨t, ht, e1, e2⟩ := h4 m' p hm' c
      obtain ⟨o1, o2, -, -⟩ := tk_old (m := m) (d := d) (a := a) (show t ≠ pn P by omega)
      exact ⟨t, by show t < pn P + 1; omega, by rw [o1, e1], by rw [o2, e2]⟩
    · have e : m = m' := by
        by_cases q : m = m'
        · exact q
        · rw [if_neg q] at hp; omega
      subst e
      rw [if_pos rfl] at hp
      exact ⟨pn P, by show pn P < pn P + 1; omega, tk_new.1, by rw [tk_new.2.1]; omega⟩
theorem tk_fr {P : PD} (hP : Pln P) {m d a t : Nat} (ht : t < pn P) : fr (tk P m d a) t = fr P t := by
  obtain ⟨o1, o2, -, -⟩ := tk_old (m := m) (d := d) (a := a) (show t ≠ pn P by omega)
  have h5 := (hP.2.1 t ht).2.2.2.2
  unfold fr
  rw [o1, o2]
  by_cases c : pp P t = 0
  · rw [if_pos c, if_pos c]
  · rw [if_neg c, if_neg c]
    show rowAt (pm (tk P m d a)) (pp (tk P m d a)) (pn P + 1) (pm P t) (pp P t - 1) = rowAt (pm P) (pp P) (pn P) (pm P t) (pp P t - 1)
    rw [rowAt, tk_new.1, tk_new.2.1, if_neg (fun q => by rw [q.1] at q; omega)]
    exact rowAt_congr (fun u hu => ⟨(tk_old (by omega)).1, (tk_old (by omega)).2.1⟩)
theorem tk_rank {P : PD} (hP : Pln P) {m d a : Nat} {E : Nat → Nat} (hn : pn P < 24) (hm : m < 4) (hd0 : 1 ≤ d) (hd : d ≤ 100) (ha : a < pn P ∨ a = 99) (hE : Rank P E) (hb : ∀ t, t < pn P → E t ≤ 2400) : Rank (tk P m d a) (u1 E (pn P) 3000) := by
  have hP' := tk_pln hP hn hm hd0 hd ha
  intro t ht
  have ht : t < pn P + 1 := ht
  by_cases c : t = pn P
  · subst c
    rw [u1_at, tk_new.2.2.1]
    constructor
    · intro q
      obtain ⟨f1, f2, f3⟩ := fr_lt hP'.1 q
      have f1 : fr (tk P m d a) (pn P) < pn P + 1 := f1
      have f4 : fr (tk P m d a) (pn P) ≠ pn P := by
        intro e
        rw [e] at f3
        omega
      rw [u1_ne f4]
      have := hb _ (show fr (tk P m d a) (pn P) < pn P by omega)
      omega
    · intro q
      rw [u1_ne (by omega)]
      have := hb a (by omega)
      omega
  · rw [tk_fr hP (by omega), (tk_old c).2.2.1, u1_ne c]
    obtain ⟨g1, g2⟩ := hE t (by omega)
    constructor
    · intro q
      have := (fr_lt hP.1 q).1
      rw [u1_ne (by omega)]
      exact g1 q
    · intro q
      rcases pa_or hP (show t < pn P by omega) with q2 | q2
      · rw [u1_ne (by omega)]; exact g2 q
      · omega
theorem tk_b {B : Blk} {P : PD} (hP : Pln P) (h : BPl B P) {m d a : Nat} (hn : pn P < 24) (hm : m < 4) : BPl (bs (bs (bs (bs (bs (bs B 3 (pn P) (nI m)) 4 (pn P) (nI d)) 5 (pn P) (aI a)) 8 (m * 24 + cn P m) (nI (pn P))) 9 m (nI (cn P m + 1))) 1 0 (nI (pn P + 1))) (tk P m d a) := by
  obtain ⟨h1, h2, h3, h4⟩ := h
  refine ⟨?_, fun t ht => ?_, fun m' hm' => ?_, fun t ht => ?_⟩
  · (repeat (first | rw [bs_o (by omega)] | rw [bs_kk] | rw [bs_kn (by omega)])); rfl
  · have ht : t < pn P + 1 := ht
    by_cases c : t = pn P
    · subst c
      rw [tk_new.1, tk_new.2.2.1, tk_new.2.2.2]
      refine ⟨?_, ?_, ?_⟩ <;> (repeat (first | rw [bs_o (by omega)] | rw [bs_kk] | rw [bs_kn (by omega)]))
    · obtain ⟨o1, -, o3, o4⟩ := tk_old (m := m) (d := d) (a := a) c
      obtain ⟨g1, g2, g3⟩ := h2 t (by omega)
      rw [o1, o3, o4]
      refine ⟨?_, ?_, ?_⟩
      · (repeat (first | rw [bs_o (by omega)] | rw [bs_kk] | rw [bs_kn (by omega)])); exact g1
      · (repeat (first | rw [bs_o (by omega)] | rw [bs_kk] | rw [bs_kn (by omega)])); exact g2
      · (repeat (first | rw [bs_o (by omega)] | rw [bs_kk] | rw [bs_kn (by omega)])); exact g3
  · rw [tk_cn]
    by_cases c : m = m'
    · subst c
      rw [if_pos rfl]
      (repeat (first | rw [bs_o (by omega)] | rw [bs_kk] | rw [bs_kn (by omega)]))
    · rw [if_neg c]
      (repeat (first | rw [bs_o (by omega)] | rw [bs_kk] | rw [bs_kn (by omega)]))
      exact h3 m' hm'
  · have ht : t < pn P + 1 := ht
    by_cases c : t = pn P
    · subst c
      rw [tk_new.1, tk_new.2.1, Nat.mul_comm 24 m]
      (repeat (first | rw [bs_o (by omega)] | rw [bs_kk] | rw [bs_kn (by omega)]))
    · obtain ⟨o1, o2, -, -⟩ := tk_old (m := m) (d := d) (a := a) c
      rw [o1, o2]
      obtain ⟨g1, g2, g3, g4, g5⟩ := hP.2.1 t (by omega)
      have e := h4 t (by omega)
      have c1 := cn_le hP (pm P t)
      have c2 := cn_le hP m
      have c3 := cnt_le (pm P) (pn P) m
      have hne : 24 * pm P t + pp P t ≠ m * 24 + cn P m := by
        intro q
        have c4 : cn P m ≤ pn P := c3
        have : pm P t = m := by omega
        rw [this] at g5 q
        omega
      (repeat (first | rw [bs_o (by omega)] | rw [bs_kk] | rw [bs_kn (by omega)]))
      exact e
theorem tk_z {z z' : Nat → Int32} {P : PD} (h : ZPl z P) {m d a : Nat} (h0 : z' 0 = nI (pn P + 1)) (hold : ∀ t, t < pn P → z' (4 + t) = z (4 + t) ∧ z' (28 + t) = z (28 + t) ∧ z' (172 + t) = z (172 + t) ∧ z' (100 + t) = z (100 + t)) (hnew : z' (4 + pn P) = nI m ∧ z' (28 + pn P) = nI d ∧ z' (172 + pn P) = nI (cn P m) ∧ z' (100 + pn P) = aI a) : ZPl z' (tk P m d a) := by
  refine ⟨h0, fun t ht => ?_⟩
  have ht : t < pn P + 1 := ht
  by_cases c : t = pn P
  · subst c
    rw [tk_new.1, tk_new.2.1, tk_new.2.2.1, tk_new.2.2.2]
    exact hnew
  · obtain ⟨o1, o2, o3, o4⟩ := tk_old (m := m) (d := d) (a := a) c
    obtain ⟨g1, g2, g3, g4⟩ := hold t (by omega)
    rw [o1, o2, o3, o4, g1, g2, g3, g4]
    exact h.2 t (by omega)
theorem tk_rest {B B' : Blk} {z z' : Nat → Int32} {n due : Nat} {mo : Int32} (h : Rest B z n) (hdue : due ≤ 3000) (hb : ∀ q, q = 0 ∨ q = 2 ∨ (12 ≤ q ∧ q ≤ 15) → B' q = B q) (hz : ∀ k, (1 ≤ k ∧ k ≤ 3) ∨ (196 ≤ k ∧ k < 356) → z' k = z k)
    (hold : ∀ t, t < n → (B' 16 t = B 16 t ∧ B' 17 t = B 17 t ∧ B' 18 t = B 18 t ∧ B' 19 t = B 19 t) ∧ z' (52 + t) = z (52 + t) ∧ z' (76 + t) = z (76 + t) ∧ z' (124 + t) = z (124 + t) ∧ z' (148 + t) = z (148 + t))
    (hnew : (B' 16 n = nI due ∧ B' 17 n = mo ∧ B' 18 n = nI 0 ∧ B' 19 n = nI 0) ∧ z' (52 + n) = nI due ∧ z' (76 + n) = mo ∧ z' (124 + n) = nI 0 ∧ z' (148 + n) = nI 0) : Rest B' z' (n + 1) := by
  obtain ⟨⟨a1, a2, a3, a4⟩, b, ⟨du, d1, d2⟩, e, f, k, k1, k2, k3, k4⟩ := h
  have sp : ∀ t, t < n + 1 → t = n ∨ t < n := fun t ht => by omega
  refine ⟨⟨by rw [hb 0 (by omega), hz 1 (by omega)]; exact a1, by rw [hb 0 (by omega), hz 2 (by omega)]; exact a2, by rw [hz 1 (by omega)]; exact a3, by rw [hz 2 (by omega)]; exact a4⟩, fun t ht => ?_, ⟨u1 du n due, fun t ht => ?_, ?_⟩, fun t ht => ?_, fun t ht => ?_, k, k1, by rw [hb 2 (by omega)]; exact k2, by rw [hz 3 (by omega)]; exact k3, fun c hc => ?_⟩
  · rcases sp t ht with rfl | q
    · obtain ⟨⟨g1, g2, g3, g4⟩, g5, g6, g7, g8⟩ := hnew
      rw [g1, g2, g3, g4, g5, g6, g7, g8]
      exact ⟨rfl, rfl, rfl, rfl⟩
    · obtain ⟨⟨g1, g2, g3, g4⟩, g5, g6, g7, g8⟩ := hold t q
      rw [g1, g2, g3, g4, g5, g6, g7, g8]
      exact b t q
  · rcases sp t ht with rfl | q
    · rw [u1_at]; exact hnew.2.1
    · rw [u1_ne (by omega), (hold t q).2.1]; exact d1 t q
  · rw [sumN, u1_at, sumN_congr (g := du) (fun t ht => u1_ne (by omega))]
    omega
  · rcases sp t ht with rfl | q
    · exact ⟨0, by omega, hnew.2.2.2.1⟩
    · rw [(hold t q).2.2.2.1]; exact e t q
  · rcases sp t ht with rfl | q
    · exact ⟨0, by omega, hnew.2.2.2.2⟩
    · rw [(hold t q).2.2.2.2]; exact f t q
  · rw [hb 12 (by omega), hb 13 (by omega), hb 14 (by omega), hb 15 (by omega), hz _ (by omega), hz _ (by omega), hz _ (by omega), hz _ (by omega)]
    obtain ⟨g1, ⟨s, g2, g3⟩, ⟨b', g4, g5⟩⟩ := k4 c hc
    exact ⟨g1, ⟨s, by omega, g3⟩, ⟨b', by omega, g5⟩⟩
