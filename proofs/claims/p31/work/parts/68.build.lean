/-! the law's build() -/
theorem msk (x : Int32) : ¬ (x &&& 2147483647) < 0 := by
  intro h
  have h1 : (x &&& 2147483647).toBitVec.toInt < 0 := Int32.lt_iff_toInt_lt.mp h
  have h2 : (x &&& 2147483647).toBitVec.msb = true := by rw [BitVec.msb_eq_toInt]; exact decide_eq_true h1
  rw [BitVec.msb_eq_getLsbD_last] at h2
  have h3 : bt (x &&& 2147483647) 31 = true := h2
  rw [b_and, show bt 2147483647 31 = false by decide +kernel, Bool.and_false] at h3
  cases h3
theorem l_low (x : Int32) {n : Nat} (h0 : 0 < n) (hn : n < 2 ^ 31) : ∃ v, v < n ∧ FL_low x (nI n) = some (nI v) := by
  obtain ⟨j, hj, e⟩ := nI_of (msk x)
  refine ⟨j % n, Nat.mod_lt _ h0, ?_⟩
  unfold FL_low
  rw [nz_eq (fun q => by have := (nI_eq hn (show 0 < 2 ^ 31 by decide)).mp q; omega), e, pk_rem hj h0 hn]
theorem l_cell {X : Scr} (hX : X.1 ≤ 260) {k : Nat} (hk : k < 1000) : ∃ v, FL_cell X (nI k) = some v := by
  unfold FL_cell
  rw [show Int32.ofNat X.1 = nI X.1 from rfl, le_nI (by omega) (by omega)]
  by_cases c : X.1 ≤ k
  · exact ⟨_, by rw [if_pos c]⟩
  · exact ⟨_, by rw [if_neg c, ld_nI (by omega) (by omega)]⟩
def ytk (y : Nat → Nat) (n due mo : Nat) : Nat → Nat := u1 (u1 (u1 (u1 y (52 + n) due) (76 + n) mo) (124 + n) 0) (148 + n) 0
theorem b_task {B : Blk} {P : PD} {E o y : Nat → Nat} (h : StB B P E o y) {m d due mo a : Nat} (hn : pn P < 24) (hm : m < 4) (ha : a < pn P ∨ a = 99) (hd0 : 1 ≤ d) (hd : d ≤ 100) (hdue : due ≤ 3000) (hmo : mo ≤ 100000) (hsum : sumN (fun u => y (76 + u)) (pn P) + mo ≤ 200000000) : ∃ (B' : Blk) (E' o' : Nat → Nat), FX2_addTask B (nI m) (nI d) (nI due) (nI mo) (aI a) = some (nI (pn P), B') ∧ StB B' (tk P m d a) E' o' (ytk y (pn P) due mo) := by
  have hB := h.bp
  have hP := h.pl
  have hc := cn_le hP m
  have hc2 : cn P m ≤ pn P := cnt_le _ _ _
  obtain ⟨b1, b2, b3, b4, b5⟩ := h.by
  obtain ⟨g1, g2, g3, g4, g5, g6, g7⟩ := h.2
  obtain ⟨Bx, hBx⟩ : ∃ Bx, bs (bs (bs (bs B 16 (pn P) (nI due)) 17 (pn P) (nI mo)) 18 (pn P) 0) 19 (pn P) 0 = Bx := ⟨_, rfl⟩
  have hfx : ∀ q, q < 16 → Bx q = B q := by
    intro q hq
    rw [← hBx]
    (repeat (first | rw [bs_o (by omega)] | rw [bs_kk] | rw [bs_kn (by omega)]))
  have hBpl : BPl Bx P := by
    unfold BPl
    rw [hfx 1 (by omega), hfx 3 (by omega), hfx 4 (by omega), hfx 5 (by omega), hfx 8 (by omega), hfx 9 (by omega)]
    exact hB
  have hB9 : B 9 m = nI (cn P m) := hB.2.2.1 m hm
  obtain ⟨By, hBy⟩ : ∃ By, bs (bs (bs (bs (bs (bs Bx 3 (pn P) (nI m)) 4 (pn P) (nI d)) 5 (pn P) (aI a)) 8 (m * 24 + cn P m) (nI (pn P))) 9 m (nI (cn P m + 1))) 1 0 (nI (pn P + 1)) = By := ⟨_, rfl⟩
  have happ : FX4_append Bx (nI m) (nI d) (aI a) = some By := by
    unfold FX4_append
    rw [hfx 1 (by omega), hB.1, lt1_eq, k24, lt_nI (by omega) (by decide), if_pos hn, stb_nI (by omega) (by decide), stb_nI (by omega) (by decide), stb_nI (by omega) (by decide), ld_nI (by omega) (by decide)]
    have e9 : bs (bs (bs Bx 3 (pn P) (nI m)) 4 (pn P) (nI d)) 5 (pn P) (aI a) 9 m = nI (cn P m) := by
      (repeat (first | rw [bs_o (by omega)] | rw [bs_kk] | rw [bs_kn (by omega)]))
      rw [hfx 9 (by omega)]; exact hB9
    rw [e9, pk_mul, nI_add, stb_nI (by omega) (by decide), ld_nI (by omega) (by decide)]
    have e9' : bs (bs (bs (bs Bx 3 (pn P) (nI m)) 4 (pn P) (nI d)) 5 (pn P) (aI a)) 8 (m * 24 + cn P m) (nI (pn P)) 9 m = nI (cn P m) := by
      (repeat (first | rw [bs_o (by omega)] | rw [bs_kk] | rw [bs_kn (by omega)]))
      rw [hfx 9 (by omega)]; exact hB9
    rw [e9', stb_nI (by omega) (by decide), lt1_eq, k1, nI_add]
    have e1 : bs (bs (bs (bs (bs Bx 3 (pn P) (nI m)) 4 (pn P) (nI d)) 5 (pn P) (aI a)) 8 (m * 24 + cn P m) (nI (pn P))) 9 m (nI (cn P m + 1)) 1 0 = nI (pn P) := by
      (repeat (first | rw [bs_o (by omega)] | rw [bs_kk] | rw [bs_kn (by omega)]))
      rw [hfx 1 (by omega)]; exact hB.1
    rw [e1, nI_add, hBy]
  have hYB : YB (pn P + 1) (ytk y (pn P) due mo) := by
    unfold ytk
    have s1 : sumN (fun t => u1 (u1 (u1 (u1 y (52 + pn P) due) (76 + pn P) mo) (124 + pn P) 0) (148 + pn P) 0 (52 + t)) (pn P) = sumN (fun t => y (52 + t)) (pn P) := sumN_congr fun t ht => by (repeat (first | rw [u1_ne (by omega)] | rw [u1_at]))
    have s2 : sumN (fun t => u1 (u1 (u1 (u1 y (52 + pn P) due) (76 + pn P) mo) (124 + pn P) 0) (148 + pn P) 0 (76 + t)) (pn P) = sumN (fun t => y (76 + t)) (pn P) := sumN_congr fun t ht => by (repeat (first | rw [u1_ne (by omega)] | rw [u1_at]))
    refine ⟨by (repeat (first | rw [u1_ne (by omega)] | rw [u1_at])); exact g1, by (repeat (first | rw [u1_ne (by omega)] | rw [u1_at])); exact g2, by (repeat (first | rw [u1_ne (by omega)] | rw [u1_at])); exact g3, ?_, ?_, fun t ht => ?_, fun c hc => ?_⟩
    · rw [sumN, s1]; (repeat (first | rw [u1_ne (by omega)] | rw [u1_at])); omega
    · rw [sumN, s2]; (repeat (first | rw [u1_ne (by omega)] | rw [u1_at])); exact hsum
    · rcases Nat.lt_or_ge t (pn P) with q | q
      · (repeat (first | rw [u1_ne (by omega)] | rw [u1_at])); exact g6 t q
      · have e : t = pn P := by omega
        subst e
        (repeat (first | rw [u1_ne (by omega)] | rw [u1_at]))
        exact ⟨by omega, by omega⟩
    · have hc' : c < y 3 := by
        have e : u1 (u1 (u1 (u1 y (52 + pn P) due) (76 + pn P) mo) (124 + pn P) 0) (148 + pn P) 0 3 = y 3 := by (repeat (first | rw [u1_ne (by omega)] | rw [u1_at]))
        rw [e] at hc; exact hc
      obtain ⟨w1, w2, w3, w4⟩ := g7 c hc'
      (repeat (first | rw [u1_ne (by omega)] | rw [u1_at]))
      exact ⟨by omega, by omega, w3, w4⟩
  have hBY : BY By (pn P + 1) (ytk y (pn P) due mo) := by
    unfold ytk
    refine ⟨?_, ?_, ?_, fun t ht => ?_, fun c hc => ?_⟩
    · rw [← hBy, ← hBx]; (repeat (first | rw [bs_o (by omega)] | rw [bs_kk] | rw [bs_kn (by omega)])); (repeat (first | rw [u1_ne (by omega)] | rw [u1_at])); exact b1
    · rw [← hBy, ← hBx]; (repeat (first | rw [bs_o (by omega)] | rw [bs_kk] | rw [bs_kn (by omega)])); (repeat (first | rw [u1_ne (by omega)] | rw [u1_at])); exact b2
    · rw [← hBy, ← hBx]; (repeat (first | rw [bs_o (by omega)] | rw [bs_kk] | rw [bs_kn (by omega)])); (repeat (first | rw [u1_ne (by omega)] | rw [u1_at])); exact b3
    · rcases Nat.lt_or_ge t (pn P) with q | q
      · rw [← hBy, ← hBx]; (repeat (first | rw [bs_o (by omega)] | rw [bs_kk] | rw [bs_kn (by omega)])); (repeat (first | rw [u1_ne (by omega)] | rw [u1_at])); exact b4 t q
      · have e : t = pn P := by omega
        subst e
        rw [← hBy, ← hBx]; (repeat (first | rw [bs_o (by omega)] | rw [bs_kk] | rw [bs_kn (by omega)])); (repeat (first | rw [u1_ne (by omega)] | rw [u1_at]))
        exact ⟨rfl, rfl, rfl, rfl⟩
    · have hc' : c < y 3 := by
        have e : u1 (u1 (u1 (u1 y (52 + pn P) due) (76 + pn P) mo) (124 + pn P) 0) (148 + pn P) 0 3 = y 3 := by (repeat (first | rw [u1_ne (by omega)] | rw [u1_at]))
        rw [e] at hc; exact hc
      rw [← hBy, ← hBx]; (repeat (first | rw [bs_o (by omega)] | rw [bs_kk] | rw [bs_kn (by omega)])); (repeat (first | rw [u1_ne (by omega)] | rw [u1_at])); exact b5 c hc'
  have hrank : Rank P E := ends_rank hP (fun u hu => (hP.2.1 u hu).2.1) h.en
  obtain ⟨B', -, -, -, f4⟩ := sch_of (P := tk P m d a) (tk_pln hP hn hm hd0 hd ha) (by rw [← hBy]; exact tk_b hP hBpl hn hm) hBY hYB
  rcases f4 with ⟨w1, E', o', -, -, w4⟩ | ⟨-, w2⟩
  · refine ⟨B', E', o', ?_, w4⟩
    have r30 : FX2_addTask_30 (nI m) (nI d) (nI due) (nI mo) (aI a) B = some (nI (pn P), B') := by
      unfold FX2_addTask_30
      rw [k1, lt_nI (by omega) (by decide), if_neg (by omega), show (100 : Int32) = nI 100 from rfl, lt_nI (by decide) (by omega), if_neg (by omega), if_neg (nneg (by omega)), show (3000 : Int32) = nI 3000 from rfl, lt_nI (by decide) (by omega), if_neg (by omega), if_neg (nneg (by omega)), show (100000 : Int32) = nI 100000 from rfl, le_nI (by omega) (by decide), if_pos hmo, hB.1, lt1_eq, k24, lt_nI (by omega) (by decide), if_pos hn, stb_nI (by omega) (by decide), stb_nI (by omega) (by decide), stb_nI (by omega) (by decide), stb_nI (by omega) (by decide), hBx, happ, c1_eq, w1, c2_eq]
    unfold FX2_addTask
    rw [if_neg (nneg (by omega)), k4, le_nI (by decide) (by omega), if_neg (by omega)]
    rcases ha with c | c
    · rw [aI_lt (by omega)] at r30 ⊢
      rw [if_neg (m6_ne (by omega)), p_has_nI hB.1 (by omega) c, c1_eq, if_neg (show ¬ (1 : Int32) = 0 by decide), r30]
    · subst c
      rw [aI_99, if_pos rfl] at *
      exact r30
  · exact absurd (tk_rank hP hn hm hd0 hd ha hrank (fun t ht => (h.Ele ht).2.1)) (w2 _)
def yof (y : Nat → Nat) (t k p : Nat) : Nat → Nat := u1 (u1 y (124 + t) k) (148 + t) (if k = 0 then 0 else p)
theorem b_offer {B : Blk} {P : PD} {E o y : Nat → Nat} (h : StB B P E o y) {t k p : Nat} (ht : t < pn P) (hk : k ≤ 500) (hp : p ≤ 1000) : ∃ B' : Blk, FX2_makeOffer B (nI t) (nI k) (nI p) = some (nI (y (124 + t)), B') ∧ StB B' P E o (yof y t k p) := by
  have hn := h.n
  obtain ⟨b1, b2, b3, b4, b5⟩ := h.by
  obtain ⟨g1, g2, g3, g4, g5, g6, g7⟩ := h.2
  have e3 : yof y t k p 3 = y 3 := by unfold yof; (repeat (first | rw [u1_ne (by omega)] | rw [u1_at]))
  refine ⟨bs (bs B 18 t (nI k)) 19 t (nI (if k = 0 then 0 else p)), ?_, ?_⟩
  · unfold FX2_makeOffer
    rw [p_has_nI h.bp.1 hn ht, c1_eq, if_neg (show ¬ (1 : Int32) = 0 by decide), if_neg (nneg (by omega)), show (500 : Int32) = nI 500 from rfl, lt_nI (by decide) (by omega), if_neg (by omega), if_neg (nneg (by omega)), show (1000 : Int32) = nI 1000 from rfl, le_nI (by omega) (by decide), if_pos hp, ld_nI (by omega) (by decide), (b4 t ht).2.2.1, p_setOffer (by omega) hk, c1_eq]
  · refine h.mk (fun q hq => by (repeat (first | rw [bs_o (by omega)] | rw [bs_kk] | rw [bs_kn (by omega)]))) ⟨?_, ?_, ?_, fun u hu => ?_, fun c hc => ?_⟩ ⟨?_, ?_, ?_, ?_, ?_, fun u hu => ?_, fun c hc => ?_⟩
    · unfold yof; (repeat (first | rw [bs_o (by omega)] | rw [bs_kk] | rw [bs_kn (by omega)])); (repeat (first | rw [u1_ne (by omega)] | rw [u1_at])); exact b1
    · unfold yof; (repeat (first | rw [bs_o (by omega)] | rw [bs_kk] | rw [bs_kn (by omega)])); (repeat (first | rw [u1_ne (by omega)] | rw [u1_at])); exact b2
    · unfold yof; (repeat (first | rw [bs_o (by omega)] | rw [bs_kk] | rw [bs_kn (by omega)])); (repeat (first | rw [u1_ne (by omega)] | rw [u1_at])); exact b3
    · obtain ⟨w1, w2, w3, w4⟩ := b4 u hu
      unfold yof
      by_cases c : u = t
      · subst c
        (repeat (first | rw [bs_o (by omega)] | rw [bs_kk] | rw [bs_kn (by omega)]))
        (repeat (first | rw [u1_ne (by omega)] | rw [u1_at]))
        exact ⟨w1, w2, rfl, rfl⟩
      · (repeat (first | rw [bs_o (by omega)] | rw [bs_kk] | rw [bs_kn (by omega)]))
        (repeat (first | rw [u1_ne (by omega)] | rw [u1_at]))
        exact ⟨w1, w2, w3, w4⟩
    · rw [e3] at hc
      unfold yof; (repeat (first | rw [bs_o (by omega)] | rw [bs_kk] | rw [bs_kn (by omega)])); (repeat (first | rw [u1_ne (by omega)] | rw [u1_at])); exact b5 c hc
    · unfold yof; (repeat (first | rw [u1_ne (by omega)] | rw [u1_at])); exact g1
    · unfold yof; (repeat (first | rw [u1_ne (by omega)] | rw [u1_at])); exact g2
    · rw [e3]; exact g3
    · rw [sumN_congr (g := fun t => y (52 + t)) (fun u hu => by unfold yof; (repeat (first | rw [u1_ne (by omega)] | rw [u1_at])))]; exact g4
    · rw [sumN_congr (g := fun t => y (76 + t)) (fun u hu => by unfold yof; (repeat (first | rw [u1_ne (by omega)] | rw [u1_at])))]; exact g5
    · have w := g6 u hu
      unfold yof
      by_cases c : u = t
      · subst c
        (repeat (first | rw [u1_ne (by omega)] | rw [u1_at]))
        exact ⟨hk, by split <;> omega⟩
      · (repeat (first | rw [u1_ne (by omega)] | rw [u1_at]))
        exact w
    · rw [e3] at hc
      unfold yof; (repeat (first | rw [u1_ne (by omega)] | rw [u1_at])); exact g7 c hc
/-- tasks 0 to t - 1 stand, nothing is traded -/
def BI (M : Mem) (t : Nat) : Prop := ∃ (P : PD) (E o y : Nat → Nat), StB (M 0) P E o y ∧ pn P = t ∧ y 3 = 0 ∧ sumN (fun u => y (76 + u)) t ≤ 400 * t
theorem build_one {X : Scr} {n t : Nat} {k : Nat} (hn : n ≤ 9) (ht : t < n) {M : Mem} (hB : BI M t) (hS : HS M) (nx : ∀ M1 : Mem, BI M1 (t + 1) → HS M1 → ∃ M' : Mem, FL_build_5 X k (nI n) 1 (nI (t + 1)) M1 = some (1, M') ∧ BI M' n ∧ HS M') (r5 r7 : Int32) {a : Nat} (ha : a < t ∨ a = 99) : ∃ M' : Mem, FL_build_68 X (FL_build_5 X k) (nI n) (nI t) r5 r7 (aI a) M = some (1, M') ∧ BI M' n ∧ HS M' := by
  obtain ⟨P, E, o, y, h, e1, e2, e3⟩ := hB
  subst e1
  obtain ⟨m, m1, m2⟩ := l_low r5 (n := 4) (by decide) (by decide)
  obtain ⟨d, d1, d2⟩ := l_low (r5 >>> ((2 : Int32) &&& 31)) (n := 14) (by decide) (by decide)
  obtain ⟨c, c1', c2'⟩ := l_low (r5 >>> ((28 : Int32) &&& 31)) (n := 3) (by decide) (by decide)
  have g113 : ∀ s, 0 < s → s ≤ 300 → ∃ M' : Mem, FL_build_113 X (FL_build_5 X k) (nI n) (nI (pn P)) r7 (aI a) (nI s) (r5 >>> ((7 : Int32) &&& 31)) (nI (1 + d)) (nI m) M = some (1, M') ∧ BI M' n ∧ HS M' := by
    intro s s1 s2
    obtain ⟨due, u1', u2⟩ := l_low (r5 >>> ((7 : Int32) &&& 31)) (n := s) s1 (by omega)
    obtain ⟨mo, v1, v2⟩ := l_low r7 (n := 400) (by decide) (by decide)
    obtain ⟨B1, E1, o1', t1, t2⟩ := b_task h (m := m) (d := 1 + d) (due := due) (mo := mo) (a := a) (by omega) m1 (by omega) (by omega) (by omega) (by omega) (by omega) (by omega)
    obtain ⟨M1, p1, p2, -, p3, -⟩ := ch_step hS (fc := fun B => FX2_addTask B (nI m) (nI (1 + d)) (nI due) (nI mo) (aI a)) t1
    have p1' : FX5_task M (nI m) (nI (1 + d)) (nI due) (nI mo) (aI a) = some (nI (pn P), M1) := p1
    have h1 : StB (M1 0) (tk P m (1 + d) a) E1 o1' (ytk y (pn P) due mo) := by rw [p2]; exact t2
    have hq : pn P < pn (tk P m (1 + d) a) := Nat.lt_succ_self _
    have q2 : FX5_ofTask M1 (nI (pn P)) (2 : Int32) = some (aI a, M1) := by
      have := o2 h1 hq
      rw [show pa (tk P m (1 + d) a) (pn P) = a from u1_at] at this
      exact this
    have hof : ∀ hrs, hrs < 30 → ∃ M' : Mem, FL_build_178 X (FL_build_5 X k) (nI n) 1 (nI (pn P)) r7 (nI hrs) M1 = some (1, M') ∧ BI M' n ∧ HS M' := by
      intro hrs hh
      obtain ⟨pr, x1, x2⟩ := l_low (r7 >>> ((18 : Int32) &&& 31)) (n := 12) (by decide) (by decide)
      obtain ⟨B2, z1, z2⟩ := b_offer h1 hq (k := hrs) (p := pr) (by omega) (by omega)
      have ez : ytk y (pn P) due mo (124 + pn P) = 0 := by unfold ytk; (repeat (first | rw [u1_ne (by omega)] | rw [u1_at]))
      rw [ez] at z1
      obtain ⟨M2, r1, r2, -, r3, -⟩ := ch_step p3 (fc := fun B => FX2_makeOffer B (nI (pn P)) (nI hrs) (nI pr)) z1
      have r1' : FX5_offer M1 (nI (pn P)) (nI hrs) (nI pr) = some (nI 0, M2) := r1
      have h2 : StB (M2 0) (tk P m (1 + d) a) E1 o1' (yof (ytk y (pn P) due mo) (pn P) hrs pr) := by rw [r2]; exact z2
      have q9 := o9 h2 hq
      have q10 := o10 h2 hq
      have e9 : yof (ytk y (pn P) due mo) (pn P) hrs pr (124 + pn P) = hrs := by unfold yof; (repeat (first | rw [u1_ne (by omega)] | rw [u1_at]))
      have e10 : yof (ytk y (pn P) due mo) (pn P) hrs pr (148 + pn P) = if hrs = 0 then 0 else pr := by unfold yof; (repeat (first | rw [u1_ne (by omega)] | rw [u1_at]))
      rw [e9] at q9
      rw [e10] at q10
      have bi : BI M2 (pn P + 1) := by
        refine ⟨_, _, _, _, h2, rfl, ?_, ?_⟩
        · unfold yof ytk; (repeat (first | rw [u1_ne (by omega)] | rw [u1_at])); exact e2
        · rw [sumN, sumN_congr (g := fun u => y (76 + u)) (fun u hu => by unfold yof ytk; (repeat (first | rw [u1_ne (by omega)] | rw [u1_at])))]
          have e : yof (ytk y (pn P) due mo) (pn P) hrs pr (76 + pn P) = mo := by unfold yof ytk; (repeat (first | rw [u1_ne (by omega)] | rw [u1_at]))
          rw [e]
          omega
      obtain ⟨M3, n1', n2, n3'⟩ := nx M2 bi r3
      refine ⟨M3, ?_, n2, n3'⟩
      unfold FL_build_178 FL_build_234
      rw [show (12 : Int32) = nI 12 from rfl, x2, if_neg (show ¬ (1 : Int32) = 0 by decide), c1_eq, r1', c2_eq, if_pos (show nI 0 = 0 from rfl), q9, c2_eq, if_pos rfl, lt1_eq, nI_1, k0, lt_nI (by decide) (by omega)]
      by_cases w : 0 < hrs
      · rw [if_pos w]; exact n1'
      · rw [if_neg w, q10, c2_eq, if_pos (by rw [if_pos (by omega)]), lt1_eq]
        exact n1'
    unfold FL_build_113 FL_build_151
    rw [u2, c1_eq, show (400 : Int32) = nI 400 from rfl, v2, c1_eq, p1', c2_eq, if_pos rfl, q2, c2_eq, if_pos rfl]
    obtain ⟨c3, y1, y2⟩ := l_low (r7 >>> ((10 : Int32) &&& 31)) (n := 3) (by decide) (by decide)
    obtain ⟨hrs, y3, y4⟩ := l_low (r7 >>> ((12 : Int32) &&& 31)) (n := 30) (by decide) (by decide)
    rw [k3, y2, c1_eq, show (30 : Int32) = nI 30 from rfl, y4, c1_eq]
    split
    · exact hof 0 (by decide)
    · exact hof hrs y3
  unfold FL_build_68
  rw [k4, m2, c1_eq, show (14 : Int32) = nI 14 from rfl, d2, c1_eq, k3, c2', c1_eq, show (1 : Int32) + nI d = nI (1 + d) from by rw [k1, nI_add]]
  split
  · exact g113 300 (by decide) (by decide)
  · exact g113 50 (by decide) (by decide)
theorem build_loop {X : Scr} (hX : X.1 ≤ 260) {n : Nat} (hn : n ≤ 9) : ∀ m t fuel M, n - t = m → t ≤ n → m < fuel → BI M t → HS M → ∃ M' : Mem, FL_build_5 X fuel (nI n) 1 (nI t) M = some (1, M') ∧ BI M' n ∧ HS M' := by
  intro m
  induction m with
  | zero =>
    intro t fuel M hm ht hf hB hS
    obtain ⟨k, rfl⟩ : ∃ k, fuel = k + 1 := ⟨fuel - 1, by omega⟩
    have e : t = n := by omega
    subst e
    refine ⟨M, ?_, hB, hS⟩
    show FL_build_5s _ _ _ _ _ _ = _
    unfold FL_build_5s
    rw [le_nI (by omega) (by omega), if_pos (Nat.le_refl _), rZ_1]
  | succ m ih =>
    intro t fuel M hm ht hf hB hS
    obtain ⟨k, rfl⟩ : ∃ k, fuel = k + 1 := ⟨fuel - 1, by omega⟩
    have one := fun r5 r7 a ha => build_one (X := X) (k := k) hn (show t < n by omega) hB hS (fun M1 b1 b2 => ih (t + 1) k M1 (by omega) (by omega) (by omega) b1 b2) r5 r7 (a := a) ha
    obtain ⟨r5, v1⟩ := l_cell hX (k := 4 + t) (by omega)
    obtain ⟨r7, v2⟩ := l_cell hX (k := 20 + t) (by omega)
    show ∃ M', FL_build_5s X (FL_build_5 X k) _ _ _ _ = _ ∧ _
    unfold FL_build_5s FL_build_66
    rw [le_nI (by omega) (by omega), if_neg (by omega), if_neg (show ¬ (1 : Int32) = 0 by decide), k4, nI_add, v1, c1_eq, show (20 : Int32) = nI 20 from rfl, nI_add, v2, c1_eq, if_nIle0 (by omega)]
    by_cases c : t = 0
    · rw [if_pos c]
      exact one r5 r7 99 (Or.inr rfl)
    · rw [if_neg c]
      obtain ⟨b, b1, b2⟩ := l_low (r5 >>> ((nI 20 : Int32) &&& 31)) (n := 2) (by decide) (by decide)
      rw [k2, b2, c1_eq]
      split
      · obtain ⟨a, a1, a2⟩ := l_low (r5 >>> ((22 : Int32) &&& 31)) (n := t) (by omega) (by omega)
        rw [a2, c1_eq]
        have := one r5 r7 a (Or.inl a1)
        rw [aI_lt (by omega)] at this
        exact this
      · exact one r5 r7 99 (Or.inr rfl)
theorem l_build {X : Scr} (hX : X.1 ≤ 260) {n : Nat} (hn : n ≤ 9) {M : Mem} (hB : BI M 0) (hS : HS M) : ∃ M' : Mem, FL_build M X (nI n) = some (1, M') ∧ BI M' n ∧ HS M' := by
  unfold FL_build
  exact build_loop hX hn n 0 fu M (by omega) (by omega) (fu_gt (by omega)) hB hS
