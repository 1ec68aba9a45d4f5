/-! the class's questions over the memory: those that leave it as it is -/
theorem o_tell {M : Mem} {t w r : Int32} (hT : FX2_tellOfTask (M 0) t w = some (r, M 0)) : FX5_ofTask M t w = some (r, M) := by
  unfold FX5_ofTask
  rw [hT, c2_eq, lt1_eq, jb_self]
theorem o0 {M : Mem} {P : PD} {E o y : Nat → Nat} (h : StB (M 0) P E o y) {t : Nat} (ht : t < pn P) : FX5_ofTask M (nI t) (0 : Int32) = some (nI (pm P t), M) := o_tell (tl h ht).1
theorem o1 {M : Mem} {P : PD} {E o y : Nat → Nat} (h : StB (M 0) P E o y) {t : Nat} (ht : t < pn P) : FX5_ofTask M (nI t) (1 : Int32) = some (nI (pd P t), M) := o_tell (tl h ht).2.1
theorem o2 {M : Mem} {P : PD} {E o y : Nat → Nat} (h : StB (M 0) P E o y) {t : Nat} (ht : t < pn P) : FX5_ofTask M (nI t) (2 : Int32) = some (aI (pa P t), M) := o_tell (tl h ht).2.2.1
theorem o3 {M : Mem} {P : PD} {E o y : Nat → Nat} (h : StB (M 0) P E o y) {t : Nat} (ht : t < pn P) : FX5_ofTask M (nI t) (3 : Int32) = some (nI (pp P t), M) := o_tell (tl h ht).2.2.2.1
theorem o4 {M : Mem} {P : PD} {E o y : Nat → Nat} (h : StB (M 0) P E o y) {t : Nat} (ht : t < pn P) : FX5_ofTask M (nI t) (4 : Int32) = some (nI (E t - pd P t), M) := o_tell (tl h ht).2.2.2.2.1
theorem o5 {M : Mem} {P : PD} {E o y : Nat → Nat} (h : StB (M 0) P E o y) {t : Nat} (ht : t < pn P) : FX5_ofTask M (nI t) (5 : Int32) = some (nI (E t), M) := o_tell (tl h ht).2.2.2.2.2.1
theorem o6 {M : Mem} {P : PD} {E o y : Nat → Nat} (h : StB (M 0) P E o y) {t : Nat} (ht : t < pn P) : FX5_ofTask M (nI t) (6 : Int32) = some (nI (E t - y (52 + t)), M) := o_tell (tl h ht).2.2.2.2.2.2.1
theorem o7 {M : Mem} {P : PD} {E o y : Nat → Nat} (h : StB (M 0) P E o y) {t : Nat} (ht : t < pn P) : FX5_ofTask M (nI t) (7 : Int32) = some (nI (y (52 + t) - E t), M) := o_tell (tl h ht).2.2.2.2.2.2.2.1
theorem o9 {M : Mem} {P : PD} {E o y : Nat → Nat} (h : StB (M 0) P E o y) {t : Nat} (ht : t < pn P) : FX5_ofTask M (nI t) (9 : Int32) = some (nI (y (124 + t)), M) := o_tell (tl h ht).2.2.2.2.2.2.2.2.1
theorem o10 {M : Mem} {P : PD} {E o y : Nat → Nat} (h : StB (M 0) P E o y) {t : Nat} (ht : t < pn P) : FX5_ofTask M (nI t) (10 : Int32) = some (nI (y (148 + t)), M) := o_tell (tl h ht).2.2.2.2.2.2.2.2.2.1
theorem o12 {M : Mem} {P : PD} {E o y : Nat → Nat} (h : StB (M 0) P E o y) {t : Nat} (ht : t < pn P) : FX5_ofTask M (nI t) (12 : Int32) = some (nI (sumN (fun c => if y (236 + c) = t then y (276 + c) else 0) (y 3)), M) := o_tell (tl h ht).2.2.2.2.2.2.2.2.2.2.1
theorem o13 {M : Mem} {P : PD} {E o y : Nat → Nat} (h : StB (M 0) P E o y) {t : Nat} (ht : t < pn P) : ∃ R, FX5_ofTask M (nI t) (13 : Int32) = some (R, M) ∧ ∀ i, i < 32 → bt R i = decide (i < pn P ∧ bhd P t i) := by
  obtain ⟨R, r1, r2⟩ := (tl h ht).2.2.2.2.2.2.2.2.2.2.2
  exact ⟨R, o_tell r1, r2⟩
theorem o_all {M : Mem} {w r : Int32} (h8 : ¬ w = 8) (h9 : ¬ w = 9) (hT : FX2_tellOfAll (M 0) w = some r) : FX5_count M w = some r := by
  unfold FX5_count
  rw [if_neg h8, if_neg h9, hT, c1_eq]
theorem n0 {M : Mem} {P : PD} {E o y : Nat → Nat} (h : StB (M 0) P E o y) : FX5_count M (0 : Int32) = some (nI (pn P)) := o_all (by decide) (by decide) (ta h).1
theorem n1 {M : Mem} {P : PD} {E o y : Nat → Nat} (h : StB (M 0) P E o y) : FX5_count M (1 : Int32) = some (nI (y 3)) := o_all (by decide) (by decide) (ta h).2.1
theorem n3 {M : Mem} {P : PD} {E o y : Nat → Nat} (h : StB (M 0) P E o y) : FX5_count M (3 : Int32) = some (lset (fun t => E t - y (52 + t)) (pn P)) := o_all (by decide) (by decide) (ta h).2.2.1
theorem n4 {M : Mem} {P : PD} {E o y : Nat → Nat} (h : StB (M 0) P E o y) : FX5_count M (4 : Int32) = some (nI (sumN (fun t => E t - y (52 + t)) (pn P))) := o_all (by decide) (by decide) (ta h).2.2.2.1
theorem n5 {M : Mem} {P : PD} {E o y : Nat → Nat} (h : StB (M 0) P E o y) : FX5_count M (5 : Int32) = some (nI (maxN E (pn P))) := o_all (by decide) (by decide) (ta h).2.2.2.2.1
theorem n6 {M : Mem} {P : PD} {E o y : Nat → Nat} (h : StB (M 0) P E o y) : FX5_count M (6 : Int32) = some (nI (sumN (fun t => y (76 + t)) (pn P))) := o_all (by decide) (by decide) (ta h).2.2.2.2.2.1
theorem n7 {M : Mem} {P : PD} {E o y : Nat → Nat} (h : StB (M 0) P E o y) : FX5_count M (7 : Int32) = some (nI (sumN (fun c => y (276 + c)) (y 3))) := o_all (by decide) (by decide) (ta h).2.2.2.2.2.2.1
theorem n10 {M : Mem} {P : PD} {E o y : Nat → Nat} (h : StB (M 0) P E o y) : FX5_count M (10 : Int32) = some (nI (y 1)) := o_all (by decide) (by decide) (ta h).2.2.2.2.2.2.2.1
theorem n11 {M : Mem} {P : PD} {E o y : Nat → Nat} (h : StB (M 0) P E o y) : FX5_count M (11 : Int32) = some (nI (y 2)) := o_all (by decide) (by decide) (ta h).2.2.2.2.2.2.2.2.1
theorem n12 {M : Mem} {P : PD} {E o y : Nat → Nat} (h : StB (M 0) P E o y) : FX5_count M (12 : Int32) = some (nI (cn P 0)) := o_all (by decide) (by decide) (ta h).2.2.2.2.2.2.2.2.2.1
theorem n13 {M : Mem} {P : PD} {E o y : Nat → Nat} (h : StB (M 0) P E o y) : FX5_count M (13 : Int32) = some (nI (cn P 1)) := o_all (by decide) (by decide) (ta h).2.2.2.2.2.2.2.2.2.2.1
theorem n14 {M : Mem} {P : PD} {E o y : Nat → Nat} (h : StB (M 0) P E o y) : FX5_count M (14 : Int32) = some (nI (cn P 2)) := o_all (by decide) (by decide) (ta h).2.2.2.2.2.2.2.2.2.2.2.1
theorem n15 {M : Mem} {P : PD} {E o y : Nat → Nat} (h : StB (M 0) P E o y) : FX5_count M (15 : Int32) = some (nI (cn P 3)) := o_all (by decide) (by decide) (ta h).2.2.2.2.2.2.2.2.2.2.2.2
theorem n_row {M : Mem} {P : PD} {E o y : Nat → Nat} (h : StB (M 0) P E o y) {m : Nat} (hm : m < 4) : FX5_count M ((12 : Int32) + nI m) = some (nI (cn P m)) := by
  have : m = 0 ∨ m = 1 ∨ m = 2 ∨ m = 3 := by omega
  rcases this with rfl | rfl | rfl | rfl
  · exact n12 h
  · exact n13 h
  · exact n14 h
  · exact n15 h
theorem r_due {M : Mem} {P : PD} {E o y : Nat → Nat} (h : StB (M 0) P E o y) {t : Nat} (ht : t < pn P) : FX5_due M (nI t) = some (nI (y (52 + t))).toInt64 := by
  have hn := h.n
  unfold FX5_due
  rw [p_has_nI h.bp.1 hn ht, c1_eq, if_neg (show ¬ (1 : Int32) = 0 by decide), ld_nI (by omega) (by decide), (h.by.2.2.2.1 t ht).1]
theorem r_money {M : Mem} {P : PD} {E o y : Nat → Nat} (h : StB (M 0) P E o y) {t : Nat} (ht : t < pn P) : FX5_money M (nI t) = some (nI (y (76 + t))) := by
  have hn := h.n
  unfold FX5_money
  rw [p_has_nI h.bp.1 hn ht, c1_eq, if_neg (show ¬ (1 : Int32) = 0 by decide), ld_nI (by omega) (by decide), (h.by.2.2.2.1 t ht).2.1]
theorem r_atn {M : Mem} {P : PD} {E o y : Nat → Nat} (h : StB (M 0) P E o y) {m p : Nat} (hm : m < 4) (hp : p < 2 ^ 31) : FX5_at M (nI m) (nI p) = some (aI (ra P m p)) := by
  unfold FX5_at
  rw [if_neg (nneg (by omega)), show (4 : Int32) = nI 4 from rfl, lt_nI (by omega) (by decide), if_pos hm, p_inRow h.pl h.bp hm hp, c1_eq]
theorem r_ofC {M : Mem} {P : PD} {E o y : Nat → Nat} (h : StB (M 0) P E o y) {c : Nat} (hc : c < y 3) : FX5_ofContract M (nI c) (0 : Int32) = some (nI (y (196 + c))) ∧ FX5_ofContract M (nI c) (1 : Int32) = some (nI (y (236 + c))) ∧ FX5_ofContract M (nI c) (2 : Int32) = some (nI (y (276 + c))) ∧ FX5_ofContract M (nI c) (3 : Int32) = some (nI (y (316 + c))) := by
  have hk := h.2.2.2.1
  obtain ⟨-, -, b3, -, b5⟩ := h.by
  obtain ⟨c1, c2, c3, c4⟩ := b5 c hc
  have hh : FX0_has (M 0) (nI c) = some 1 := (p_hasC b3 _).1 (inT_nI hc (by omega))
  refine ⟨?_, ?_, ?_, ?_⟩
  · unfold FX5_ofContract FX0_tell
    rw [hh, c1_eq, if_neg (show ¬ (1 : Int32) = 0 by decide), if_pos rfl, ld_nI (by omega) (by decide), c1, c1_eq]
  · unfold FX5_ofContract FX0_tell
    rw [hh, c1_eq]
    (repeat rw [if_neg (by decide)])
    rw [if_pos rfl, ld_nI (by omega) (by decide), c2, c1_eq]
  · unfold FX5_ofContract FX0_tell
    rw [hh, c1_eq]
    (repeat rw [if_neg (by decide)])
    rw [if_pos rfl, ld_nI (by omega) (by decide), c3, c1_eq]
  · unfold FX5_ofContract FX0_tell
    rw [hh, c1_eq]
    (repeat rw [if_neg (by decide)])
    rw [if_pos rfl, ld_nI (by omega) (by decide), c4, c1_eq]
theorem l_before {M : Mem} {P : PD} {E o y : Nat → Nat} (h : StB (M 0) P E o y) {t : Nat} (ht : t < pn P) : FL_before M (nI t) = some (aI (fr P t), M) := by
  have hn := h.n
  have hp := (h.pl.2.1 t ht)
  have hc := cn_le h.pl (pm P t)
  unfold FL_before
  rw [o3 h ht, c2_eq, if_nI0 (by omega)]
  unfold fr
  by_cases c : pp P t = 0
  · rw [if_pos c, if_pos c]; rfl
  · rw [if_neg c, if_neg c, o0 h ht, c2_eq, nI_sub1 c, r_atn h hp.1 (by omega), c1_eq]
theorem e0_read {M : Mem} {P : PD} {E o y : Nat → Nat} (h : StB (M 0) P E o y) {x : Nat} (hx : x < pn P ∨ x = 99) {α : Type} (K : Int32 → Mem → Option α) : (if aI x = (-6 : Int32) then K 0 M else c2 (FX5_ofTask M (aI x) (5 : Int32)) K) = K (nI (e0 E x)) M := by
  have hn := h.n
  unfold e0
  rcases hx with hx | hx
  · rw [aI_lt (by omega), if_neg (m6_ne (by omega)), o5 h hx, c2_eq, if_pos (by omega)]
  · subst hx
    rw [aI_99, if_pos rfl, if_neg (by decide)]; rfl
theorem l_sub {a b : Nat} (ha : a < 2 ^ 31) (hb : b < 2 ^ 31) : ((nI a).toInt64 - (nI b).toInt64).toInt = (a : Int) - b := by
  rw [Int64.toInt_sub, Int32.toInt_toInt64, Int32.toInt_toInt64, nI_toInt ha, nI_toInt hb]
  exact Int.bmod_eq_of_le (by omega) (by omega)
theorem l_neg {x : Int64} (h1 : -1000000000000 < x.toInt) (h2 : x.toInt < 1000000000000) : (-x).toInt = -x.toInt := by
  rw [Int64.toInt_neg]
  exact Int.bmod_eq_of_le (by omega) (by omega)
theorem l_nI {a : Nat} (ha : a < 2 ^ 31) : (nI a).toInt64.toInt = (a : Int) := by rw [Int32.toInt_toInt64, nI_toInt ha]
theorem l_0 : (0 : Int64).toInt = 0 := rfl
