/-! sums and sets over all tasks or contracts -/
def addF (g : Nat → Int32) (n : Nat) : Int32 := foldN (fun t a => a + g t) n 0
theorem addF_congr {f g : Nat → Int32} {n : Nat} (h : ∀ t, t < n → f t = g t) : addF f n = addF g n := foldN_congr (fun t ht s => by rw [h t ht])
theorem addF_nI (f : Nat → Nat) (n : Nat) : addF (fun t => nI (f t)) n = nI (sumN f n) := by
  unfold addF
  induction n with
  | zero => rfl
  | succ n ih => rw [foldN, ih, sumN, nI_add]
theorem addF_sumI (f : Nat → Int32) (n : Nat) : addF f n = sumI f n := by
  unfold addF
  induction n with
  | zero => rfl
  | succ n ih => rw [foldN, ih, sumI]
theorem p_lateTogether {B : Blk} {z : Nat → Int32} {P : PD} {E o du : Nat → Nat} (h : RelP B z P E o) (hd : DU z (pn P) du) : FX2_lateTogether B = some (nI (sumN (fun t => E t - du t) (pn P))) := by
  have hn := h.n
  rw [← addF_nI]
  refine loop_fold (fun fuel t a => FX2_lateTogether_4 B fuel a (nI t)) (pn P) (fun t a => a + nI (E t - du t)) (fun a => some a) (fun k s => ?_) (fun k t s ht => ?_) (fu_gt (show pn P < 100000 by omega))
  · show FX2_lateTogether_4s B _ _ _ = _
    unfold FX2_lateTogether_4s
    rw [h.2.2.1.1, le_nI (by omega) (by omega), if_pos (Nat.le_refl _)]
  · show FX2_lateTogether_4s B (FX2_lateTogether_4 B k) _ _ = _
    unfold FX2_lateTogether_4s
    rw [h.2.2.1.1, le_nI (by omega) (by omega), if_neg (by omega), p_lateOf h hd ht, c1_eq, lt1_eq, lt1_eq, nI_1]
theorem q_lateTogether {Z : Blk} {n : Nat} {E du : Nat → Nat} (hn : n ≤ 24) (h0 : Z 1 0 = nI n) (hE : ∀ t, t < n → Z 8 t = nI (E t)) (hE2 : ∀ t, t < n → E t < 1000000) (hd : DU (Z 1) n du) : FX6_lateTogether Z = some (nI (sumN (fun t => E t - du t) n)) := by
  rw [← addF_nI]
  refine loop_fold (fun fuel t a => FX6_lateTogether_4 Z fuel a (nI t)) n (fun t a => a + nI (E t - du t)) (fun a => some a) (fun k s => ?_) (fun k t s ht => ?_) (fu_gt (show n < 100000 by omega))
  · show FX6_lateTogether_4s Z _ _ _ = _
    unfold FX6_lateTogether_4s
    rw [k0, ld_nI (by decide) (by decide), h0, le_nI (by omega) (by omega), if_pos (Nat.le_refl _)]
  · show FX6_lateTogether_4s Z (FX6_lateTogether_4 Z k) _ _ = _
    unfold FX6_lateTogether_4s
    rw [k0, ld_nI (by decide) (by decide), h0, le_nI (by omega) (by omega), if_neg (by omega), q_late hn hE hE2 hd ht, c1_eq, lt1_eq, lt1_eq, nI_1]
def lset (f : Nat → Nat) (n : Nat) : Int32 := foldN (fun t a => a ||| (if f t = 0 then 0 else (1 : Int32) <<< (nI t &&& 31))) n 0
theorem p_lateTasks {B : Blk} {z : Nat → Int32} {P : PD} {E o du : Nat → Nat} (h : RelP B z P E o) (hd : DU z (pn P) du) : FX2_lateTasks B = some (lset (fun t => E t - du t) (pn P)) := by
  have hn := h.n
  refine loop_fold (fun fuel t a => FX2_lateTasks_4 B fuel a (nI t)) (pn P) (fun t a => a ||| (if E t - du t = 0 then 0 else (1 : Int32) <<< (nI t &&& 31))) (fun a => some a) (fun k s => ?_) (fun k t s ht => ?_) (fu_gt (show pn P < 100000 by omega))
  · show FX2_lateTasks_4s B _ _ _ = _
    unfold FX2_lateTasks_4s
    rw [h.2.2.1.1, le_nI (by omega) (by omega), if_pos (Nat.le_refl _)]
  · have hE := h.E_le ht
    show FX2_lateTasks_4s B (FX2_lateTasks_4 B k) _ _ = _
    unfold FX2_lateTasks_4s FX2_lateTasks_31
    rw [h.2.2.1.1, le_nI (by omega) (by omega), if_neg (by omega), p_lateOf h hd ht, c1_eq, if_nIle0 (by omega), lt1_eq, lt1_eq, lt1_eq, nI_1]
    by_cases c : E t - du t = 0
    · rw [if_pos c, if_pos c]
    · rw [if_neg c, if_neg c]; rfl
theorem q_lateSet {Z : Blk} {n : Nat} {E du : Nat → Nat} (hn : n ≤ 24) (h0 : Z 1 0 = nI n) (hE : ∀ t, t < n → Z 8 t = nI (E t)) (hE2 : ∀ t, t < n → E t < 1000000) (hd : DU (Z 1) n du) : FX6_lateSet Z = some (lset (fun t => E t - du t) n) := by
  refine loop_fold (fun fuel t a => FX6_lateSet_4 Z fuel a (nI t)) n (fun t a => a ||| (if E t - du t = 0 then 0 else (1 : Int32) <<< (nI t &&& 31))) (fun a => some a) (fun k s => ?_) (fun k t s ht => ?_) (fu_gt (show n < 100000 by omega))
  · show FX6_lateSet_4s Z _ _ _ = _
    unfold FX6_lateSet_4s
    rw [k0, ld_nI (by decide) (by decide), h0, le_nI (by omega) (by omega), if_pos (Nat.le_refl _)]
  · have := hE2 t ht
    show FX6_lateSet_4s Z (FX6_lateSet_4 Z k) _ _ = _
    unfold FX6_lateSet_4s FX6_lateSet_30
    rw [k0, ld_nI (by decide) (by decide), h0, le_nI (by omega) (by omega), if_neg (by omega), ← k0, q_late hn hE hE2 hd ht, c1_eq, if_nIle0 (by omega), lt1_eq, lt1_eq, lt1_eq, nI_1]
    by_cases c : E t - du t = 0
    · rw [if_pos c, if_pos c]
    · rw [if_neg c, if_neg c]; rfl
theorem p_offers {B : Blk} {z : Nat → Int32} {P : PD} {E o : Nat → Nat} (h : RelP B z P E o) : FX2_offers B = some (addF (fun t => if z (124 + t) ≤ 0 then 0 else 1) (pn P)) := by
  have hn := h.n
  refine loop_fold (fun fuel t a => FX2_offers_4 B fuel a (nI t)) (pn P) (fun t a => a + (if z (124 + t) ≤ 0 then 0 else 1)) (fun a => some a) (fun k s => ?_) (fun k t s ht => ?_) (fu_gt (show pn P < 100000 by omega))
  · show FX2_offers_4s B _ _ _ = _
    unfold FX2_offers_4s
    rw [h.2.2.1.1, le_nI (by omega) (by omega), if_pos (Nat.le_refl _)]
  · show FX2_offers_4s B (FX2_offers_4 B k) _ _ = _
    unfold FX2_offers_4s FX2_offers_30
    rw [h.2.2.1.1, le_nI (by omega) (by omega), if_neg (by omega), ld_nI (by omega) (by decide), (h.2.2.2.2.2.2.2.2.1 t ht).2.2.1, lt1_eq, lt1_eq, lt1_eq, nI_1]
    by_cases c : z (124 + t) ≤ 0
    · rw [if_pos c, if_pos c]
    · rw [if_neg c, if_neg c]; rfl
theorem q_offers {Z : Blk} {n : Nat} (hn : n ≤ 24) (h0 : Z 1 0 = nI n) : FX6_offers Z = some (addF (fun t => if Z 1 (124 + t) ≤ 0 then 0 else 1) n) := by
  refine loop_fold (fun fuel t a => FX6_offers_4 Z fuel a (nI t)) n (fun t a => a + (if Z 1 (124 + t) ≤ 0 then 0 else 1)) (fun a => some a) (fun k s => ?_) (fun k t s ht => ?_) (fu_gt (show n < 100000 by omega))
  · show FX6_offers_4s Z _ _ _ = _
    unfold FX6_offers_4s
    rw [k0, ld_nI (by decide) (by decide), h0, le_nI (by omega) (by omega), if_pos (Nat.le_refl _)]
  · show FX6_offers_4s Z (FX6_offers_4 Z k) _ _ = _
    unfold FX6_offers_4s FX6_offers_32
    rw [k0, ld_nI (by decide) (by decide), h0, le_nI (by omega) (by omega), if_neg (by omega), ← k0, k124, nI_add, ld_nI (by omega) (by decide), lt1_eq, lt1_eq, lt1_eq, nI_1]
    by_cases c : Z 1 (124 + t) ≤ 0
    · rw [if_pos c, if_pos c]
    · rw [if_neg c, if_neg c]; rfl
theorem p_allMoney {B : Blk} {z : Nat → Int32} {P : PD} {E o : Nat → Nat} (h : RelP B z P E o) : FX2_allMoney B = some (addF (fun t => z (76 + t)) (pn P)) := by
  have hn := h.n
  refine loop_fold (fun fuel t a => FX2_allMoney_4 B fuel a (nI t)) (pn P) (fun t a => a + z (76 + t)) (fun a => some a) (fun k s => ?_) (fun k t s ht => ?_) (fu_gt (show pn P < 100000 by omega))
  · show FX2_allMoney_4s B _ _ _ = _
    unfold FX2_allMoney_4s
    rw [h.2.2.1.1, le_nI (by omega) (by omega), if_pos (Nat.le_refl _)]
  · show FX2_allMoney_4s B (FX2_allMoney_4 B k) _ _ = _
    unfold FX2_allMoney_4s
    rw [h.2.2.1.1, le_nI (by omega) (by omega), if_neg (by omega), ld_nI (by omega) (by decide), (h.2.2.2.2.2.2.2.2.1 t ht).2.1, lt1_eq, lt1_eq, nI_1]
theorem q_sumOf {Z : Blk} {b n : Nat} (hb : b + n ≤ 356) : FX6_sumOf Z (nI b) (nI n) = some (addF (fun t => Z 1 (b + t)) n) := by
  refine loop_fold (fun fuel t a => FX6_sumOf_5 Z fuel (nI b) (nI n) a (nI t)) n (fun t a => a + Z 1 (b + t)) (fun a => some a) (fun k s => ?_) (fun k t s ht => ?_) (fu_gt (show n < 100000 by omega))
  · show FX6_sumOf_5s Z _ _ _ _ _ = _
    unfold FX6_sumOf_5s
    rw [le_nI (by omega) (by omega), if_pos (Nat.le_refl _)]
  · show FX6_sumOf_5s Z (FX6_sumOf_5 Z k) _ _ _ _ = _
    unfold FX6_sumOf_5s
    rw [le_nI (by omega) (by omega), if_neg (by omega), nI_add, ld_nI (by omega) (by decide), lt1_eq, lt1_eq, nI_1]
theorem q_endOfAll {Z : Blk} {n : Nat} {E : Nat → Nat} (hn : n ≤ 24) (h0 : Z 1 0 = nI n) (hE : ∀ t, t < n → Z 8 t = nI (E t)) (hE2 : ∀ t, t < n → E t < 1000000) : FX6_endOfAll Z = some (nI (maxN E n)) := by
  have key : ∀ d t fuel, t + d = n → d < fuel → FX6_endOfAll_4 Z fuel (nI (maxN E t)) (nI t) = some (nI (maxN E n)) := by
    intro d
    induction d with
    | zero =>
      intro t fuel ht hf
      obtain ⟨k, rfl⟩ : ∃ k, fuel = k + 1 := ⟨fuel - 1, by omega⟩
      have e : t = n := by omega
      subst e
      show FX6_endOfAll_4s Z _ _ _ = _
      unfold FX6_endOfAll_4s
      rw [k0, ld_nI (by decide) (by decide), h0, le_nI (by omega) (by omega), if_pos (Nat.le_refl _)]
    | succ d ih =>
      intro t fuel ht hf
      obtain ⟨k, rfl⟩ : ∃ k, fuel = k + 1 := ⟨fuel - 1, by omega⟩
      have htn : t < n := by omega
      have hm : maxN E t ≤ 1000000 := maxN_le (fun u hu => Nat.le_of_lt (hE2 u (by omega)))
      have := hE2 t htn
      show FX6_endOfAll_4s Z _ _ _ = _
      unfold FX6_endOfAll_4s
      rw [k0, ld_nI (by decide) (by decide), h0, le_nI (by omega) (by omega), if_neg (by omega), ld_nI (by omega) (by decide), hE t htn, le_nI (by omega) (by omega), ld_nI (by omega) (by decide), hE t htn, lt1_eq, lt1_eq, nI_1]
      have ih2 := ih (t + 1) k (by omega) (by omega)
      rw [maxN] at ih2
      by_cases c : E t ≤ maxN E t
      · rw [if_pos c]
        rw [Nat.max_eq_left c] at ih2
        exact ih2
      · rw [if_neg c]
        rw [Nat.max_eq_right (by omega)] at ih2
        exact ih2
  exact key n 0 fu (by omega) (fu_gt (by omega))
theorem p_allHours {B : Blk} {z : Nat → Int32} {k : Nat} (hk : B 2 0 = nI k) (hk4 : k ≤ 40) (h : ∀ c, c < k → B 14 c = z (276 + c)) : FX0_allHours B = some (addF (fun c => z (276 + c)) k) := by
  refine loop_fold (fun fuel t a => FX0_allHours_4 B fuel a (nI t)) k (fun t a => a + z (276 + t)) (fun a => some a) (fun q s => ?_) (fun q t s ht => ?_) (fu_gt (show k < 100000 by omega))
  · show FX0_allHours_4s B _ _ _ = _
    unfold FX0_allHours_4s
    rw [hk, le_nI (by omega) (by omega), if_pos (Nat.le_refl _)]
  · show FX0_allHours_4s B (FX0_allHours_4 B q) _ _ = _
    unfold FX0_allHours_4s
    rw [hk, le_nI (by omega) (by omega), if_neg (by omega), ld_nI (by omega) (by decide), h t ht, lt1_eq, lt1_eq, nI_1]
theorem p_soldBy {B : Blk} {z : Nat → Int32} {k : Nat} {x : Int32} (hk : B 2 0 = nI k) (hk4 : k ≤ 40) (h : ∀ c, c < k → B 12 c = z (196 + c) ∧ B 14 c = z (276 + c)) : FX0_soldBy B x = some (addF (fun c => if z (196 + c) = x then z (276 + c) else 0) k) := by
  refine loop_fold (fun fuel t a => FX0_soldBy_4 B fuel x a (nI t)) k (fun c a => a + (if z (196 + c) = x then z (276 + c) else 0)) (fun a => some a) (fun q s => ?_) (fun q t s ht => ?_) (fu_gt (show k < 100000 by omega))
  · show FX0_soldBy_4s B _ _ _ _ = _
    unfold FX0_soldBy_4s
    rw [hk, le_nI (by omega) (by omega), if_pos (Nat.le_refl _)]
  · show FX0_soldBy_4s B (FX0_soldBy_4 B q) _ _ _ = _
    unfold FX0_soldBy_4s FX0_soldBy_33
    rw [hk, le_nI (by omega) (by omega), if_neg (by omega), ld_nI (by omega) (by decide), ld_nI (by omega) (by decide), (h t ht).1, (h t ht).2, lt1_eq, lt1_eq, lt1_eq, nI_1]
    by_cases c : z (196 + t) = x
    · rw [if_pos c, if_pos c]
    · rw [if_neg c, if_neg c]; rfl
theorem p_boughtBy {B : Blk} {z : Nat → Int32} {k : Nat} {x : Int32} (hk : B 2 0 = nI k) (hk4 : k ≤ 40) (h : ∀ c, c < k → B 13 c = z (236 + c) ∧ B 14 c = z (276 + c)) : FX0_boughtBy B x = some (addF (fun c => if z (236 + c) = x then z (276 + c) else 0) k) := by
  refine loop_fold (fun fuel t a => FX0_boughtBy_4 B fuel x a (nI t)) k (fun c a => a + (if z (236 + c) = x then z (276 + c) else 0)) (fun a => some a) (fun q s => ?_) (fun q t s ht => ?_) (fu_gt (show k < 100000 by omega))
  · show FX0_boughtBy_4s B _ _ _ _ = _
    unfold FX0_boughtBy_4s
    rw [hk, le_nI (by omega) (by omega), if_pos (Nat.le_refl _)]
  · show FX0_boughtBy_4s B (FX0_boughtBy_4 B q) _ _ _ = _
    unfold FX0_boughtBy_4s FX0_boughtBy_33
    rw [hk, le_nI (by omega) (by omega), if_neg (by omega), ld_nI (by omega) (by decide), ld_nI (by omega) (by decide), (h t ht).1, (h t ht).2, lt1_eq, lt1_eq, lt1_eq, nI_1]
    by_cases c : z (236 + t) = x
    · rw [if_pos c, if_pos c]
    · rw [if_neg c, if_neg c]; rfl
theorem q_hoursBy {Z : Blk} {b k : Nat} {x : Int32} (hb : b = 196 ∨ b = 236) (hk : Z 1 3 = nI k) (hk4 : k ≤ 40) : FX6_hoursBy Z (nI b) x = some (addF (fun c => if Z 1 (b + c) = x then Z 1 (276 + c) else 0) k) := by
  refine loop_fold (fun fuel t a => FX6_hoursBy_5 Z fuel (nI b) x a (nI t)) k (fun c a => a + (if Z 1 (b + c) = x then Z 1 (276 + c) else 0)) (fun a => some a) (fun q s => ?_) (fun q t s ht => ?_) (fu_gt (show k < 100000 by omega))
  · show FX6_hoursBy_5s Z _ _ _ _ _ = _
    unfold FX6_hoursBy_5s
    rw [k3, ld_nI (by decide) (by decide), hk, le_nI (by omega) (by omega), if_pos (Nat.le_refl _)]
  · show FX6_hoursBy_5s Z (FX6_hoursBy_5 Z q) _ _ _ _ = _
    unfold FX6_hoursBy_5s FX6_hoursBy_45
    rw [k3, ld_nI (by decide) (by decide), hk, le_nI (by omega) (by omega), if_neg (by omega), nI_add, ld_nI (by omega) (by decide), k276, nI_add, ld_nI (by omega) (by decide), lt1_eq, lt1_eq, lt1_eq, nI_1]
    by_cases c : Z 1 (b + t) = x
    · rw [if_pos c, if_pos c]
    · rw [if_neg c, if_neg c]; rfl
