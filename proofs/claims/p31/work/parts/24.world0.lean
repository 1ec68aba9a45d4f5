/-! the first world, as part 02 says worlds -/
def vF (V : VT) (a : Nat → Nat → Nat) (x z : Nat → Nat) : VT := (V.1, fun j o => if j < 11 then a j o else if j = 11 then x o else z o, V.2.2)
def mM0 : Mem := fun j => if j < 11 then mB0 else if j = 11 then mX0 else mZ0
theorem D_iff {A : Nat → Prop} {ws : va_W} : va_D A ws ↔ (ws.map (·.1)).Nodup ∧ ∀ q ∈ ws, A q.1 := by
  constructor
  · intro h
    refine ⟨List.pairwise_iff_getElem.mpr fun i j hi hj hij e => ?_, fun q hq => ?_⟩
    · rw [List.length_map] at hi hj
      rw [List.getElem_map, List.getElem_map] at e
      have := h.1 i j _ _ (List.getElem?_eq_getElem hi) (List.getElem?_eq_getElem hj) e
      omega
    · obtain ⟨i, hi⟩ := List.getElem?_of_mem hq
      exact h.2 i q hi
  · intro h
    refine ⟨fun i j p q hi hj e => ?_, fun k q hk => h.2 q (List.mem_of_getElem? hk)⟩
    have h1 : (ws.map (·.1))[i]? = some p.1 := by rw [List.getElem?_map, hi]; rfl
    have h2 : (ws.map (·.1))[j]? = some q.1 := by rw [List.getElem?_map, hj]; rfl
    exact (List.getElem?_inj (List.getElem?_eq_some_iff.mp h1).1 h.1).mp (by rw [h1, h2, e])
theorem cell_refs {cA : ClassId} {n : Nat} {f g : Nat → Option Nat} (h : ∀ i, i < n → f i = g i) : vp_cell cA (n, .inr (.inr (.inr (.inr f)))) = vp_cell cA (n, .inr (.inr (.inr (.inr g)))) := by
  rw [vp_cell_q, vp_cell_q]
  unfold arrV
  have e : (fun j : Fin n => va_rf (f j.val)) = fun j : Fin n => va_rf (g j.val) := by
    funext j
    rw [h j.val j.isLt]
  rw [e]
theorem places_cases {j o : Nat} (h : (j, o) ∈ places) : (j < 11 ∧ o < 21) ∨ (j = 11 ∧ o < 8) ∨ (j = 12 ∧ o < 1) := by
  unfold places at h
  simp only [List.mem_append, List.mem_flatMap, List.mem_map, List.mem_range, Prod.mk.injEq] at h
  rcases h with ⟨a, ha, b, hb, rfl, rfl⟩ | ⟨b, hb, rfl, rfl⟩ | ⟨b, hb, rfl, rfl⟩
  · exact Or.inl ⟨ha, hb⟩
  · exact Or.inr (Or.inl ⟨rfl, hb⟩)
  · exact Or.inr (Or.inr ⟨rfl, hb⟩)
theorem cellM_addr {V : VT} {a : Nat → Nat → Nat} {x z : Nat → Nat} {j o : Nat} (hj : j < 11) : cellM (vF V a x z) j mB0 o = cellM (Va V (a j)) 0 mB0 o := by
  have e : ∀ k, vA (vF V a x z) j k = a j k := fun k => if_pos hj
  unfold cellM
  split <;> first | rfl | (simp only [e]; rfl)
theorem vF_11 {V : VT} {a : Nat → Nat → Nat} {x z : Nat → Nat} (k : Nat) : vA (vF V a x z) 11 k = x k := rfl
theorem vF_12 {V : VT} {a : Nat → Nat → Nat} {x z : Nat → Nat} (k : Nat) : vA (vF V a x z) 12 k = z k := rfl
theorem mark_in {V : VT} {a : Nat → Nat} {o : Nat} (ho : o < 21) : (a o, cellM (Va V a) 0 mB0 o) ∈ markW V a := by
  unfold markW
  refine List.mem_map.mpr ⟨o, ?_, rfl⟩
  have h : ∀ o, o < 21 → o ∈ [0, 1, 2, 3, 4, 5, 6, 7, 8, 9, 10, 11, 12, 13, 14, 15, 16, 17, 18, 19, 20] := by decide
  exact h o ho
theorem mod_in {V : VT} {a : Nat → Nat} {o : Nat} (ho : o < 1) : (a o, cellZ (Va V a) mZ0 o) ∈ modW V a := by
  unfold modW
  refine List.mem_map.mpr ⟨o, ?_, rfl⟩
  have h : ∀ o, o < 1 → o ∈ [0] := by decide
  exact h o ho
theorem mark_sub {V : VT} {a : Nat → Nat → Nat} {x z : Nat → Nat} {j : Nat} (hj : j < 11) : ∀ q ∈ markW V (a j), q ∈ slackW V a x ++ modW V z := by
  intro q hq
  have h : j = 0 ∨ j = 1 ∨ j = 2 ∨ j = 3 ∨ j = 4 ∨ j = 5 ∨ j = 6 ∨ j = 7 ∨ j = 8 ∨ j = 9 ∨ j = 10 := by omega
  unfold slackW histW
  rcases h with rfl | rfl | rfl | rfl | rfl | rfl | rfl | rfl | rfl | rfl | rfl <;> simp [hq]
set_option maxRecDepth 100000 in
set_option maxHeartbeats 4000000 in
theorem addr_order (V : VT) (a : Nat → Nat → Nat) (x z : Nat → Nat) : (slackW V a x ++ modW V z).map (·.1) = ([(11, 0)] ++ (((List.range 21).map fun o => (0, o)) ++ (((List.range 21).map fun o => (1, o)) ++ ((([(11, 3)] ++ [(11, 4)]) ++ (((((((List.range 21).map fun o => (4, o)) ++ ((List.range 21).map fun o => (5, o))) ++ ((List.range 21).map fun o => (6, o))) ++ ((List.range 21).map fun o => (7, o))) ++ ((List.range 21).map fun o => (8, o))) ++ ((List.range 21).map fun o => (9, o)) ++ ((List.range 21).map fun o => (10, o)))) ++ ([(11, 1)] ++ ([(11, 2)] ++ ([(11, 5), (11, 6), (11, 7)] ++ (((List.range 21).map fun o => (2, o)) ++ ((List.range 21).map fun o => (3, o))))))))) ++ ((List.range 1).map fun o => (12, o))).map (fun p : Nat × Nat => vA (vF V a x z) p.1 p.2) := rfl
theorem places_perm : ([(11, 0)] ++ (((List.range 21).map fun o => (0, o)) ++ (((List.range 21).map fun o => (1, o)) ++ ((([(11, 3)] ++ [(11, 4)]) ++ (((((((List.range 21).map fun o => (4, o)) ++ ((List.range 21).map fun o => (5, o))) ++ ((List.range 21).map fun o => (6, o))) ++ ((List.range 21).map fun o => (7, o))) ++ ((List.range 21).map fun o => (8, o))) ++ ((List.range 21).map fun o => (9, o)) ++ ((List.range 21).map fun o => (10, o)))) ++ ([(11, 1)] ++ ([(11, 2)] ++ ([(11, 5), (11, 6), (11, 7)] ++ (((List.range 21).map fun o => (2, o)) ++ ((List.range 21).map fun o => (3, o))))))))) ++ ((List.range 1).map fun o => (12, o))).Perm places := by decide +kernel
set_option maxRecDepth 100000 in
set_option maxHeartbeats 4000000 in
/-- both objects stand: the world of memory mM0 -/
theorem world0 {V : VT} {a : Nat → Nat → Nat} {x z : Nat → Nat} {A : Nat → Prop} {H : Heap} (hP : va_P (vD V) vwCl (slackW V a x ++ modW V z) H) (hD : va_D A (slackW V a x ++ modW V z)) : va_P (vD (vF V a x z)) vwCl (wsOf (vF V a x z) mM0) H ∧ va_D A (wsOf (vF V a x z) mM0) := by
  have hin : ∀ q ∈ slackW V a x ++ modW V z, va_at (vD V) vwCl q H := P_mem.mp hP
  constructor
  · refine P_mem.mpr fun q hq => ?_
    unfold wsOf at hq
    obtain ⟨⟨j, o⟩, hp, rfl⟩ := List.mem_map.mp hq
    rcases places_cases hp with ⟨hj, ho⟩ | ⟨rfl, ho⟩ | ⟨rfl, ho⟩
    · have e1 : vA (vF V a x z) j o = a j o := if_pos hj
      have e2 : cellOf (vF V a x z) mM0 (j, o) = cellM (Va V (a j)) 0 mB0 o := by
        unfold cellOf
        dsimp only
        rw [if_pos hj, show mM0 j = mB0 from if_pos hj]
        exact cellM_addr hj
      dsimp only
      rw [e1, e2]
      exact hin _ (mark_sub hj _ (mark_in ho))
    · have hs : ∀ q ∈ slackW V a x, va_at (vD V) vwCl q H := fun q h => hin q (List.mem_append_left _ h)
      have h : o = 0 ∨ o = 1 ∨ o = 2 ∨ o = 3 ∨ o = 4 ∨ o = 5 ∨ o = 6 ∨ o = 7 := by omega
      rcases h with rfl | rfl | rfl | rfl | rfl | rfl | rfl | rfl
      · exact hs (objX (x 0) (.ref (a 0 0)) (.ref (a 1 0)) (.ref (x 3)) (.ref (x 1)) (.ref (x 2)) (.ref (x 5))) (by unfold slackW; simp)
      · have h1 := hs (x 1, refC V 2 (f2 (fun k => a (2 + k)))) (by unfold slackW; simp)
        refine Eq.trans (b := some (vp_cell (vM V) (2, .inr (.inr (.inr (.inr (f2 (fun k => a (2 + k))))))))) h1 (congrArg some (cell_refs fun i hi => ?_))
        have : i = 0 ∨ i = 1 := by omega
        rcases this with rfl | rfl <;> rfl
      · exact hs (zarW V (x 2)) (by unfold slackW; simp)
      · exact hs (objH (x 3) (x 4)) (by unfold slackW histW; simp)
      · have h1 := hs (x 4, refC V 7 (f7 (fun k => a (4 + k)))) (by unfold slackW histW; simp)
        refine Eq.trans (b := some (vp_cell (vM V) (7, .inr (.inr (.inr (.inr (f7 (fun k => a (4 + k))))))))) h1 (congrArg some (cell_refs fun i hi => ?_))
        have : i = 0 ∨ i = 1 ∨ i = 2 ∨ i = 3 ∨ i = 4 ∨ i = 5 ∨ i = 6 := by omega
        rcases this with rfl | rfl | rfl | rfl | rfl | rfl | rfl <;> rfl
      · exact hs (x 5, cellX (Va V x) mX0 5) (by unfold slackW padW; simp)
      · exact hs (x 6, cellX (Va V x) mX0 6) (by unfold slackW padW; simp)
      · exact hs (x 7, cellX (Va V x) mX0 7) (by unfold slackW padW; simp)
    · have e2 : cellOf (vF V a x z) mM0 (12, o) = cellZ (Va V z) mZ0 o := by
        unfold cellOf
        dsimp only
        rw [if_neg (by decide), if_neg (by decide)]
        rfl
      dsimp only
      rw [e2]
      exact hin (z o, cellZ (Va V z) mZ0 o) (List.mem_append_right _ (mod_in ho))
  · have hd := D_iff.mp hD
    refine D_iff.mpr ⟨?_, fun q hq => ?_⟩
    · have e : (wsOf (vF V a x z) mM0).map (·.1) = places.map (fun p : Nat × Nat => vA (vF V a x z) p.1 p.2) := by
        unfold wsOf
        rw [List.map_map]
        rfl
      rw [e]
      refine ((places_perm.map _).nodup_iff).mp ?_
      rw [← addr_order]
      exact hd.1
    · unfold wsOf at hq
      obtain ⟨p, hp, rfl⟩ := List.mem_map.mp hq
      have h1 : vA (vF V a x z) p.1 p.2 ∈ (slackW V a x ++ modW V z).map (·.1) := by
        rw [addr_order]
        exact ((places_perm.map _).mem_iff).mpr (List.mem_map.mpr ⟨p, hp, rfl⟩)
      obtain ⟨q, hq, e⟩ := List.mem_map.mp h1
      show A (vA (vF V a x z) p.1 p.2)
      rw [← e]
      exact hd.2 q hq
