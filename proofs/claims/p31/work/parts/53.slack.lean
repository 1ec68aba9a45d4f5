/-! slack: the latest ends of the class, and the search of the model -/
theorem ends_exist {P : PD} {o : Nat → Nat} (ho : Topo P o) (d : Nat → Nat) : ∃ E, Ends P d E := by
  have key : ∀ k, k ≤ pn P → ∃ E : Nat → Nat, ∀ i, i < k → E (o i) = max (e0 E (fr P (o i))) (e0 E (pa P (o i))) + d (o i) := by
    intro k
    induction k with
    | zero => exact fun _ => ⟨fun _ => 0, fun i hi => by omega⟩
    | succ k ih =>
      intro hk
      obtain ⟨E, hE⟩ := ih (by omega)
      have before : ∀ i x, i ≤ k → ((x < 24 → ∃ j, j < i ∧ o j = x)) → x < 24 → x ≠ o k := by
        intro i x hi h hx e
        obtain ⟨j, hj, ej⟩ := h hx
        have := ho.2.2.1 j k (by omega) (by omega) (by rw [ej, e])
        omega
      refine ⟨u1 E (o k) (max (e0 E (fr P (o k))) (e0 E (pa P (o k))) + d (o k)), fun i hi => ?_⟩
      have hx := ho.2.2.2 i (by omega)
      rw [e0_u1 (before i _ (by omega) hx.1), e0_u1 (before i _ (by omega) hx.2)]
      by_cases c : i = k
      · subst c; rw [u1_at]
      · rw [u1_ne (fun e => c (ho.2.2.1 i k (by omega) (by omega) e))]
        exact hE i (by omega)
  obtain ⟨E, hE⟩ := key (pn P) (Nat.le_refl _)
  refine ⟨E, fun t ht => ?_⟩
  obtain ⟨i, hi, rfl⟩ := ho.2.1 t ht
  exact hE i hi
/-- latest ends: as great as can be with no task late -/
def LatI (P : PD) (E du : Nat → Nat) (o L : Nat → Nat) (j : Nat) : Prop := (∀ u, u < pn P → E u ≤ L u ∧ L u ≤ du u) ∧ (∀ i, i < pn P → j ≤ i → (fr P (o i) < 24 → L (fr P (o i)) + pd P (o i) ≤ L (o i)) ∧ (pa P (o i) < 24 → L (pa P (o i)) + pd P (o i) ≤ L (o i))) ∧
  ∀ H : Nat → Nat, (∀ u, u < pn P → H u ≤ du u) → (∀ v, v < pn P → (fr P v < 24 → H (fr P v) + pd P v ≤ H v) ∧ (pa P v < 24 → H (pa P v) + pd P v ≤ H v)) → ∀ u, u < pn P → H u ≤ L u
def lowL (L : Nat → Nat) (x h : Nat) : Nat → Nat := if x < 24 then u1 L x (min h (L x)) else L
theorem lowL_le (L : Nat → Nat) (x h u : Nat) : lowL L x h u ≤ L u := by
  unfold lowL
  split
  · unfold u1
    split
    · rename_i e; rw [e]; exact Nat.min_le_right _ _
    · exact Nat.le_refl _
  · exact Nat.le_refl _
theorem lowL_at {L : Nat → Nat} {x h : Nat} (hx : x < 24) : lowL L x h x ≤ h := by
  unfold lowL
  rw [if_pos hx, u1_at]
  exact Nat.min_le_left _ _
theorem lowL_ne {L : Nat → Nat} {x h u : Nat} (hx : x < 24 → u ≠ x) : lowL L x h u = L u := by
  unfold lowL
  split
  · rename_i c; exact u1_ne (hx c)
  · rfl
theorem lowL_ge {L : Nat → Nat} {x h u b : Nat} (h1 : b ≤ L u) (h2 : x < 24 → u = x → b ≤ h) : b ≤ lowL L x h u := by
  unfold lowL
  split
  · rename_i c
    unfold u1
    split
    · rename_i e; exact Nat.le_min.mpr ⟨h2 c e, by rw [← e]; exact h1⟩
    · exact h1
  · exact h1
theorem Lat_step {P : PD} {E du o L : Nat → Nat} {j : Nat} (hP : Pln P) (ho : Topo P o) (hE : Ends P (pd P) E) (hj : j < pn P) (h : LatI P E du o L (j + 1)) : LatI P E du o (lowL (lowL L (fr P (o j)) (L (o j) - pd P (o j))) (pa P (o j)) (L (o j) - pd P (o j))) j := by
  have hn := hP.1
  obtain ⟨h1, h2, h3⟩ := h
  obtain ⟨v, hv⟩ : ∃ v, o j = v := ⟨_, rfl⟩
  have hvn : v < pn P := by rw [← hv]; exact ho.1 j hj
  have hto := ho.2.2.2 j hj
  rw [hv] at hto ⊢
  have hEv := hE v hvn
  have hLv := (h1 v hvn).1
  obtain ⟨x, hx⟩ : ∃ x, L v - pd P v = x := ⟨_, rfl⟩
  rw [hx]
  have nf : fr P v < 24 → ∀ i, j ≤ i → i < pn P → o i ≠ fr P v := by
    intro c i hi hin e
    obtain ⟨q, hq, eq⟩ := hto.1 c
    have := ho.2.2.1 q i (by omega) hin (by rw [eq, e])
    omega
  have na : pa P v < 24 → ∀ i, j ≤ i → i < pn P → o i ≠ pa P v := by
    intro c i hi hin e
    obtain ⟨q, hq, eq⟩ := hto.2 c
    have := ho.2.2.1 q i (by omega) hin (by rw [eq, e])
    omega
  have same : ∀ i, j ≤ i → i < pn P → lowL (lowL L (fr P v) x) (pa P v) x (o i) = L (o i) := by
    intro i hi hin
    rw [lowL_ne (fun c => na c i hi hin), lowL_ne (fun c => nf c i hi hin)]
  have le : ∀ u, lowL (lowL L (fr P v) x) (pa P v) x u ≤ L u := fun u => Nat.le_trans (lowL_le _ _ _ _) (lowL_le _ _ _ _)
  have ef : fr P v < 24 → E (fr P v) + pd P v ≤ E v := fun c => by
    have : e0 E (fr P v) = E (fr P v) := if_pos c
    omega
  have ea : pa P v < 24 → E (pa P v) + pd P v ≤ E v := fun c => by
    have : e0 E (pa P v) = E (pa P v) := if_pos c
    omega
  refine ⟨fun u hu => ⟨lowL_ge (lowL_ge (h1 u hu).1 (fun c e => ?_)) (fun c e => ?_), Nat.le_trans (le u) (h1 u hu).2⟩, fun i hi hji => ?_, fun H hH1 hH2 u hu => lowL_ge (lowL_ge (h3 H hH1 hH2 u hu) (fun c e => ?_)) (fun c e => ?_)⟩
  · have := ef c
    rw [e]; omega
  · have := ea c
    rw [e]; omega
  · rw [same i hji hi]
    rcases Nat.lt_or_ge j i with q | q
    · obtain ⟨g1, g2⟩ := h2 i hi q
      exact ⟨fun c => Nat.le_trans (Nat.add_le_add_right (le _) _) (g1 c), fun c => Nat.le_trans (Nat.add_le_add_right (le _) _) (g2 c)⟩
    · have e : i = j := by omega
      subst e
      rw [hv]
      constructor
      · intro c
        have a1 : lowL (lowL L (fr P v) x) (pa P v) x (fr P v) ≤ x := Nat.le_trans (lowL_le _ _ _ _) (lowL_at c)
        clear hto nf na
        omega
      · intro c
        have a1 : lowL (lowL L (fr P v) x) (pa P v) x (pa P v) ≤ x := lowL_at c
        clear hto nf na
        omega
  · have := (hH2 v hvn).1 c
    have := h3 H hH1 hH2 v hvn
    rw [e]; omega
  · have := (hH2 v hvn).2 c
    have := h3 H hH1 hH2 v hvn
    rw [e]; omega
/-- a task can be held by some hours just where its latest end leaves them -/
theorem held_iff {P : PD} {E Eh du o L : Nat → Nat} {t h : Nat} (hP : Pln P) (ho : Topo P o) (hE : Ends P (pd P) E) (hL : LatI P E du o L 0) (ht : t < pn P) (hEh : Ends P (fun u => pd P u + (if u = t then h else 0)) Eh) : (∀ u, u < pn P → Eh u ≤ du u) ↔ h ≤ L t - E t := by
  have hn := hP.1
  obtain ⟨it, hit, eit⟩ := ho.2.1 t ht
  have bef : ∀ i, i < it → Eh (o i) = E (o i) := by
    intro i
    induction i using Nat.strongRecOn with
    | ind i ih =>
      intro hi
      have hin : i < pn P := by omega
      have hx := ho.2.2.2 i hin
      have hne : o i ≠ t := fun e => by
        have := ho.2.2.1 i it hin hit (by rw [e, eit])
        omega
      rw [hEh _ (ho.1 i hin), hE _ (ho.1 i hin)]
      show max (e0 Eh (fr P (o i))) (e0 Eh (pa P (o i))) + (pd P (o i) + if o i = t then h else 0) = _
      rw [if_neg hne]
      have e1 : ∀ x, (x < 24 → ∃ j, j < i ∧ o j = x) → e0 Eh x = e0 E x := by
        intro x hx
        unfold e0
        by_cases c : x < 24
        · rw [if_pos c, if_pos c]
          obtain ⟨j, hj, ej⟩ := hx c
          rw [← ej]
          exact ih j hj (by omega)
        · rw [if_neg c, if_neg c]
      rw [e1 _ hx.1, e1 _ hx.2, Nat.add_zero]
  have at_t : Eh t = E t + h := by
    have hx := ho.2.2.2 it hit
    rw [eit] at hx
    have h1 := hEh t ht
    have h2 := hE t ht
    have e1 : ∀ x, (x < 24 → ∃ j, j < it ∧ o j = x) → e0 Eh x = e0 E x := by
      intro x hx
      unfold e0
      by_cases c : x < 24
      · rw [if_pos c, if_pos c]
        obtain ⟨j, hj, ej⟩ := hx c
        rw [← ej]
        exact bef j hj
      · rw [if_neg c, if_neg c]
    rw [e1 _ hx.1, e1 _ hx.2] at h1
    have h1 : Eh t = max (e0 E (fr P t)) (e0 E (pa P t)) + (pd P t + if t = t then h else 0) := h1
    rw [if_pos rfl] at h1
    omega
  obtain ⟨l1, l2, l3⟩ := hL
  constructor
  · intro hle
    have := l3 Eh hle (fun v hv => by
      have h1 : Eh v = max (e0 Eh (fr P v)) (e0 Eh (pa P v)) + (pd P v + if v = t then h else 0) := hEh v hv
      constructor
      · intro c
        have : e0 Eh (fr P v) = Eh (fr P v) := if_pos c
        omega
      · intro c
        have : e0 Eh (pa P v) = Eh (pa P v) := if_pos c
        omega) t ht
    omega
  · intro hle
    have all : ∀ i, i < pn P → Eh (o i) ≤ L (o i) := by
      intro i
      induction i using Nat.strongRecOn with
      | ind i ih =>
        intro hi
        by_cases e : o i = t
        · rw [e, at_t]
          have := (l1 t ht).1
          omega
        · have h1 : Eh (o i) = max (e0 Eh (fr P (o i))) (e0 Eh (pa P (o i))) + (pd P (o i) + if o i = t then h else 0) := hEh _ (ho.1 i hi)
          rw [if_neg e] at h1
          have h2 := hE _ (ho.1 i hi)
          have h3 := (l1 _ (ho.1 i hi)).1
          have hx := ho.2.2.2 i hi
          obtain ⟨g1, g2⟩ := l2 i hi (by omega)
          have b1 : e0 Eh (fr P (o i)) + pd P (o i) ≤ L (o i) := by
            unfold e0
            by_cases c : fr P (o i) < 24
            · rw [if_pos c]
              obtain ⟨j, hj, ej⟩ := hx.1 c
              have := ih j hj (by omega)
              rw [ej] at this
              have := g1 c
              omega
            · rw [if_neg c]; clear hx; omega
          have b2 : e0 Eh (pa P (o i)) + pd P (o i) ≤ L (o i) := by
            unfold e0
            by_cases c : pa P (o i) < 24
            · rw [if_pos c]
              obtain ⟨j, hj, ej⟩ := hx.2 c
              have := ih j hj (by omega)
              rw [ej] at this
              have := g2 c
              omega
            · rw [if_neg c]; clear hx; omega
          clear hx
          omega
    intro u hu
    obtain ⟨i, hi, rfl⟩ := ho.2.1 u hu
    exact Nat.le_trans (all i hi) (l1 _ hu).2
theorem sumN_zero {f : Nat → Nat} {n : Nat} : sumN f n = 0 ↔ ∀ t, t < n → f t = 0 := by
  constructor
  · intro h t ht
    have := sumN_le (f := f) ht
    omega
  · intro h
    induction n with
    | zero => rfl
    | succ n ih => rw [sumN, ih (fun t ht => h t (by omega)), h n (by omega)]
theorem RelP.o20 {B : Blk} {z : Nat → Int32} {P : PD} {E o : Nat → Nat} (h : RelP B z P E o) (L : Nat → Int32) : RelP (bc B 20 L) z P E o := by
  refine RelP_rest h (fun q hq => bc_ne (by omega)) (fun _ _ => rfl) ?_
  exact Rest_frame h.2.2.2.2.2.2.2 (by rw [bc_ne (by omega)]) (by rw [bc_ne (by omega)]) (by rw [bc_ne (by omega)]) (fun o h1 h2 => bc_ne (by omega)) rfl rfl rfl (fun _ _ => rfl) h.n
theorem p_lower {B : Blk} {P : PD} (hB : BPl B P) (hn : pn P ≤ 24) {F : Nat → Int32} {L : Nat → Nat} (hF : ∀ u, u < pn P → F u = nI (L u)) (hL : ∀ u, u < pn P → L u < 2 ^ 31) {x h : Nat} (hx : x < pn P ∨ x = 99) (hh : h < 2 ^ 31) : ∃ F' : Nat → Int32, FX2_lowerLatestEnd (bc B 20 F) (aI x) (nI h) = some (bc B 20 F') ∧ ∀ u, u < pn P → F' u = nI (lowL L x h u) := by
  unfold FX2_lowerLatestEnd
  rw [p_has_aI (n := pn P) (by rw [bc_ne (by omega)]; exact hB.1) hn hx, c1_eq, ite_bool]
  by_cases c : x < 24
  · have hxn : x < pn P := by omega
    rw [if_pos c, aI_lt c, ld_nI (by omega) (by decide), bc_at, hF x hxn, lt1_eq, minI hh (hL x hxn), stb_nI (by omega) (by decide), bs_bc]
    refine ⟨_, rfl, fun u hu => ?_⟩
    unfold lowL
    rw [if_pos c, upd_eq]
    unfold u1
    by_cases e : u = x
    · rw [if_pos e, if_pos e]
    · rw [if_neg e, if_neg e]; exact hF u hu
  · rw [if_neg c]
    refine ⟨F, rfl, fun u hu => ?_⟩
    unfold lowL
    rw [if_neg c]
    exact hF u hu
theorem p_slackOf {B : Blk} {z : Nat → Int32} {P : PD} {E o du : Nat → Nat} (h : RelP B z P E o) (hd : DU z (pn P) du) {t : Nat} (ht : t < pn P) : (∃ u, u < pn P ∧ du u < E u) ∧ FX2_slackOf B (nI t) = some (0, B) ∨ (∀ u, u < pn P → E u ≤ du u) ∧ ∃ (F : Nat → Int32) (L : Nat → Nat), LatI P E du o L 0 ∧ FX2_slackOf B (nI t) = some (nI (min (L t - E t) 5000), bc B 20 F) := by
  have hn := h.n
  have hP := h.1
  have ho := h.2.2.2.2.1
  have hE := h.2.2.2.1
  have hB := h.2.2.1
  have hsb : sumN (fun t => E t - du t) (pn P) < 2 ^ 31 := by
    have : ∀ n, n ≤ pn P → sumN (fun t => E t - du t) n ≤ 2400 * n := by
      intro n
      induction n with
      | zero => intro _; exact Nat.le_refl _
      | succ n ih =>
        intro hq
        have a1 := ih (by omega)
        have a2 := h.E_le (show n < pn P by omega)
        rw [sumN]
        show _ + (E n - du n) ≤ _
        omega
    have := this _ (Nat.le_refl _)
    omega
  unfold FX2_slackOf
  rw [p_lateTogether h hd, c1_eq, if_nIle0 hsb]
  by_cases c : sumN (fun t => E t - du t) (pn P) = 0
  · rw [if_pos c]
    have hle : ∀ u, u < pn P → E u ≤ du u := fun u hu => by
      have := sumN_zero.mp c u hu
      omega
    refine Or.inr ⟨hle, ?_⟩
    have dle : ∀ u, u < pn P → du u ≤ 72000 := fun u hu => hd.le hn hu
    -- the loop that begins with the due times
    obtain ⟨G, hG⟩ : ∃ G : Nat → Nat → Int32, G = fun j x => if x < j then nI (du x) else B 20 x := ⟨_, rfl⟩
    have l11 : ∀ d x fuel, x + d = pn P → d < fuel → FX2_slackOf_11 fuel (nI t) (nI x) (bc B 20 (G x)) = FX2_slackOf_50 fu (nI t) (nI (pn P) - 1) (bc B 20 (G (pn P))) := by
      intro d
      induction d with
      | zero =>
        intro x fuel hx hf
        obtain ⟨k, rfl⟩ : ∃ k, fuel = k + 1 := ⟨fuel - 1, by omega⟩
        have e : x = pn P := by omega
        subst e
        show FX2_slackOf_11s _ _ _ _ = _
        unfold FX2_slackOf_11s
        rw [bc_ne (o' := 1) (by omega), hB.1, le_nI (by omega) (by omega), if_pos (Nat.le_refl _), lt1_eq]
      | succ d ih =>
        intro x fuel hx hf
        obtain ⟨k, rfl⟩ : ∃ k, fuel = k + 1 := ⟨fuel - 1, by omega⟩
        have hxn : x < pn P := by omega
        show FX2_slackOf_11s _ _ _ _ = _
        unfold FX2_slackOf_11s
        rw [bc_ne (o' := 1) (by omega), hB.1, le_nI (by omega) (by omega), if_neg (by omega), bc_ne (o' := 16) (by omega), ld_nI (by omega) (by decide), (h.2.2.2.2.2.2.2.2.1 x hxn).1, hd.1 x hxn, stb_nI (by omega) (by decide), lt1_eq, nI_1, bs_bc]
        have e : upd (G x) x (nI (du x)) = G (x + 1) := by
          funext y
          rw [hG, upd_eq]
          show (if y = x then nI (du x) else if y < x then nI (du y) else B 20 y) = if y < x + 1 then nI (du y) else B 20 y
          by_cases q : y = x
          · rw [if_pos q, if_pos (by omega), q]
          · rw [if_neg q]
            by_cases q2 : y < x
            · rw [if_pos q2, if_pos (by omega)]
            · rw [if_neg q2, if_neg (by omega)]
        rw [e]
        exact ih (x + 1) k (by omega) (by omega)
    have r11 := l11 (pn P) 0 fu (by omega) (fu_gt (by omega))
    have eG0 : G 0 = B 20 := by
      rw [hG]; funext x
      show (if x < 0 then nI (du x) else B 20 x) = B 20 x
      rw [if_neg (by omega)]
    rw [eG0, bc_self] at r11
    -- the way back along the order
    have l50 : ∀ j fuel (F : Nat → Int32) (L : Nat → Nat), j ≤ pn P → j < fuel → (∀ u, u < pn P → F u = nI (L u)) → LatI P E du o L j → ∃ (F' : Nat → Int32) (L' : Nat → Nat), LatI P E du o L' 0 ∧ FX2_slackOf_50 fuel (nI t) (nI j - 1) (bc B 20 F) = some (nI (min (L' t - E t) 5000), bc B 20 F') := by
      intro j
      induction j with
      | zero =>
        intro fuel F L hj hf hF hL
        obtain ⟨k, rfl⟩ : ∃ k, fuel = k + 1 := ⟨fuel - 1, by omega⟩
        have hl := hL.1 t ht
        have := dle t ht
        have := h.E_le ht
        refine ⟨F, L, hL, ?_⟩
        show FX2_slackOf_50s _ _ _ _ = _
        unfold FX2_slackOf_50s
        rw [if_pos (by decide), ld_nI (by omega) (by decide), bc_at, hF t ht, bc_ne (o' := 6) (by omega), ld_nI (by omega) (by decide), h.2.2.2.2.2.1 t ht, lt1_eq, nI_sub hl.1, show (5000 : Int32) = nI 5000 from rfl, lt_nI (by omega) (by omega)]
        by_cases q : 5000 < L t - E t
        · rw [if_pos q, Nat.min_eq_right (by omega)]
        · rw [if_neg q, Nat.min_eq_left (by omega)]
      | succ j ih =>
        intro fuel F L hj hf hF hL
        obtain ⟨k, rfl⟩ : ∃ k, fuel = k + 1 := ⟨fuel - 1, by omega⟩
        have hjn : j < pn P := by omega
        have hvn := h.2.2.2.2.1.1 j hjn
        have hoj := h.2.2.2.2.2.2.1 j hjn
        have hLb : ∀ u, u < pn P → L u < 2 ^ 31 := fun u hu => by
          have := (hL.1 u hu).2
          have := dle u hu
          omega
        have hpd : pd P (o j) ≤ L (o j) := by
          have h1 := hE _ hvn
          have h2 := (hL.1 _ hvn).1
          omega
        have hlv := hLb _ hvn
        obtain ⟨F1, f1, f2⟩ := p_lower hB hn (F := F) (L := L) hF hLb (x := fr P (o j)) (h := L (o j) - pd P (o j)) (fr_or hn _) (by omega)
        obtain ⟨F2, g1, g2⟩ := p_lower hB hn (F := F1) (L := lowL L (fr P (o j)) (L (o j) - pd P (o j))) f2 (fun u hu => Nat.lt_of_le_of_lt (lowL_le _ _ _ _) (hLb u hu)) (x := pa P (o j)) (h := L (o j) - pd P (o j)) (pa_or hP hvn) (by omega)
        have hB20 : BPl (bc B 20 F) P := by
          unfold BPl
          rw [bc_ne (o' := 1) (by omega), bc_ne (o' := 3) (by omega), bc_ne (o' := 4) (by omega), bc_ne (o' := 5) (by omega), bc_ne (o' := 8) (by omega), bc_ne (o' := 9) (by omega)]
          exact hB
        obtain ⟨F', L', i1, i2⟩ := ih k F2 _ (by omega) (by omega) g2 (Lat_step hP ho hE hjn hL)
        refine ⟨F', L', i1, ?_⟩
        show FX2_slackOf_50s (FX2_slackOf_50 k) _ _ _ = _
        unfold FX2_slackOf_50s
        rw [nI_pred, if_neg (nneg (by omega)), bc_ne (o' := 7) (by omega), ld_nI (by omega) (by decide), hoj, ld_nI (by omega) (by decide), bc_at, hF _ hvn, bc_ne (o' := 4) (by omega), ld_nI (by omega) (by decide), (hB.2.1 _ hvn).2.1, lt1_eq, nI_sub hpd, p_inFrontOf hP hB20 hvn, c1_eq, f1, c1_eq, bc_ne (o' := 5) (by omega), ld_nI (by omega) (by decide), (hB.2.1 _ hvn).2.2, g1, c1_eq, lt1_eq]
        rw [← Int32.sub_eq_add_neg]
        exact i2
    obtain ⟨F', L', i1, i2⟩ := l50 (pn P) fu (G (pn P)) du (Nat.le_refl _) (fu_gt (by omega)) (fun u hu => by
      rw [hG]
      show (if u < pn P then nI (du u) else B 20 u) = _
      rw [if_pos hu]) ⟨fun u hu => ⟨hle u hu, Nat.le_refl _⟩, fun i hi h => by omega, fun H h1 h2 => h1⟩
    exact ⟨F', L', i1, r11.trans i2⟩
  · rw [if_neg c]
    refine Or.inl ⟨?_, rfl⟩
    apply Classical.byContradiction
    intro hno
    refine c (sumN_zero.mpr (fun u hu => ?_))
    show E u - du u = 0
    apply Classical.byContradiction
    intro q
    exact hno ⟨u, hu, by omega⟩
