/-! Plan.schedule: it ends all tasks just where an order exists -/
theorem bs_r (B : Blk) (o k : Nat) (v : Int32) (o' k' : Nat) : bs B o k v o' k' = if o' = o ∧ k' = k then v else B o' k' := by
  unfold bs
  by_cases h : o' = o
  · subst h
    rw [if_pos rfl]
    unfold upd
    by_cases h2 : k' = k
    · rw [if_pos h2, if_pos ⟨rfl, h2⟩]
    · rw [if_neg h2, if_neg (fun q => h2 q.2)]
  · rw [if_neg h, if_neg (fun q => h q.1)]
theorem bs_o {B : Blk} {o k : Nat} {v : Int32} {o' : Nat} (h : o' ≠ o) : bs B o k v o' = B o' := if_neg h
def dn (P : PD) (re : Nat → Nat) (t : Nat) : Prop := pp P t < re (pm P t)
def fz (P : PD) (m r : Nat) : Nat := if r = 0 then 99 else ra P m (r - 1)
theorem fr_fz (P : PD) (t : Nat) : fr P t = fz P (pm P t) (pp P t) := rfl
theorem cnt_sum {mach : Nat → Nat} {n : Nat} (h : ∀ t, t < n → mach t < 4) : cnt mach n 0 + cnt mach n 1 + cnt mach n 2 + cnt mach n 3 = n := by
  induction n with
  | zero => rfl
  | succ n ih =>
    have h1 := ih (fun t ht => h t (by omega))
    have h2 := h n (by omega)
    simp only [cnt]
    have : mach n = 0 ∨ mach n = 1 ∨ mach n = 2 ∨ mach n = 3 := by omega
    rcases this with e | e | e | e <;> simp [e] <;> omega
theorem cn_sum {P : PD} (hP : Pln P) : cn P 0 + cn P 1 + cn P 2 + cn P 3 = pn P := cnt_sum (fun t ht => (hP.2.1 t ht).1)
def SI (P : PD) (B : Blk) (e : Nat) (re E od : Nat → Nat) : Prop :=
  BPl B P ∧ e = re 0 + re 1 + re 2 + re 3 ∧ (∀ m, m < 4 → B 10 m = nI (re m) ∧ re m ≤ cn P m) ∧
  (∀ t, t < pn P → (dn P re t → B 6 t = nI (E t) ∧ 1 ≤ E t ∧ E t ≤ 100 * e ∧ E t = max (e0 E (fr P t)) (e0 E (pa P t)) + pd P t ∧ (fr P t < 24 → dn P re (fr P t)) ∧ (pa P t < 24 → dn P re (pa P t))) ∧ (¬ dn P re t → B 6 t = nI 0)) ∧
  (∀ i, i < e → B 7 i = nI (od i) ∧ od i < pn P ∧ dn P re (od i) ∧ (fr P (od i) < 24 → ∃ j, j < i ∧ od j = fr P (od i)) ∧ (pa P (od i) < 24 → ∃ j, j < i ∧ od j = pa P (od i))) ∧
  (∀ t, t < pn P → dn P re t → ∃ i, i < e ∧ od i = t) ∧ (∀ i j, i < e → j < e → od i = od j → i = j)
theorem SI_le {P : PD} {B : Blk} {e : Nat} {re E od : Nat → Nat} (hP : Pln P) (h : SI P B e re E od) : e ≤ pn P := by
  have h1 := cn_sum hP
  have a0 := (h.2.2.1 0 (by omega)).2
  have a1 := (h.2.2.1 1 (by omega)).2
  have a2 := (h.2.2.1 2 (by omega)).2
  have a3 := (h.2.2.1 3 (by omega)).2
  have := h.2.1
  omega
def u1 (f : Nat → Nat) (k v : Nat) : Nat → Nat := fun x => if x = k then v else f x
theorem u1_at {f : Nat → Nat} {k v : Nat} : u1 f k v k = v := if_pos rfl
theorem u1_ne {f : Nat → Nat} {k v x : Nat} (h : x ≠ k) : u1 f k v x = f x := if_neg h
theorem u1_sum {re : Nat → Nat} {m : Nat} (hm : m < 4) : u1 re m (re m + 1) 0 + u1 re m (re m + 1) 1 + u1 re m (re m + 1) 2 + u1 re m (re m + 1) 3 = re 0 + re 1 + re 2 + re 3 + 1 := by
  have : m = 0 ∨ m = 1 ∨ m = 2 ∨ m = 3 := by omega
  rcases this with rfl | rfl | rfl | rfl <;> simp [u1] <;> omega
theorem e0_u1 {E : Nat → Nat} {t v x : Nat} (h : x < 24 → x ≠ t) : e0 (u1 E t v) x = e0 E x := by
  unfold e0
  by_cases c : x < 24
  · rw [if_pos c, if_pos c, u1_ne (h c)]
  · rw [if_neg c, if_neg c]
theorem BPl_frame {B B' : Blk} {P : PD} (h : ∀ o, o ≠ 6 → o ≠ 7 → o ≠ 10 → B' o = B o) (hB : BPl B P) : BPl B' P := by
  unfold BPl at hB ⊢
  rw [h 1 (by omega) (by omega) (by omega), h 3 (by omega) (by omega) (by omega), h 4 (by omega) (by omega) (by omega), h 5 (by omega) (by omega) (by omega), h 8 (by omega) (by omega) (by omega), h 9 (by omega) (by omega) (by omega)]
  exact hB
/-- one task more has its end -/
theorem SI_step {P : PD} {B : Blk} {e : Nat} {re E od : Nat → Nat} (hP : Pln P) (h : SI P B e re E od) {m t v : Nat} (hm : m < 4) (hr : re m < cn P m) (ht : ra P m (re m) = t) (hv : max (e0 E (fz P m (re m))) (e0 E (pa P t)) + pd P t = v) (hb : pa P t < 24 → dn P re (pa P t)) :
    SI P (bs (bs (bs B 6 t (nI v)) 7 e (nI t)) 10 m (nI (re m + 1))) (e + 1) (u1 re m (re m + 1)) (u1 E t v) (u1 od e t) ∧ v ≤ 100 * (e + 1) := by
  obtain ⟨t1, t2, t3⟩ := ra_some hP hm hr
  have hn := hP.1
  rw [ht] at t1 t2 t3
  have hle := SI_le hP h
  obtain ⟨hB, he, hre, hE, ho, hall, hinj⟩ := h
  obtain ⟨-, hd1, hd2, hpa, hpl⟩ := hP.2.1 t t1
  have hnd : ¬ dn P re t := by unfold dn; rw [t2, t3]; omega
  have hfr : fr P t = fz P m (re m) := by rw [fr_fz, t2, t3]
  have hdn : ∀ u, u < pn P → (dn P (u1 re m (re m + 1)) u ↔ dn P re u ∨ u = t) := by
    intro u hu
    unfold dn
    by_cases c : pm P u = m
    · rw [c, u1_at]
      constructor
      · intro q
        by_cases c2 : pp P u = re m
        · exact Or.inr (hP.2.2.1 u t hu t1 (by omega) (by omega))
        · exact Or.inl (by omega)
      · rintro (q | rfl) <;> omega
    · rw [u1_ne c]
      constructor
      · exact Or.inl
      · rintro (q | rfl)
        · exact q
        · exact absurd t2 c
  have hfn : fr P t < 24 → fr P t < pn P ∧ dn P re (fr P t) := by
    intro c
    obtain ⟨f1, f2, f3⟩ := fr_lt hn c
    refine ⟨f1, ?_⟩
    unfold dn
    rw [f2, t2]
    omega
  have han : pa P t < 24 → pa P t < pn P ∧ dn P re (pa P t) := fun c => ⟨by rcases hpa with q | q <;> omega, hb c⟩
  have hE0 : ∀ x, (x < 24 → x < pn P ∧ dn P re x) → e0 E x ≤ 100 * e := by
    intro x hx
    unfold e0
    by_cases c : x < 24
    · rw [if_pos c]
      exact ((hE x (hx c).1).1 (hx c).2).2.2.1
    · rw [if_neg c]; exact Nat.zero_le _
  have hv1 := hE0 _ hfn
  have hv2 := hE0 _ han
  rw [← hfr] at hv
  have hvb : v ≤ 100 * (e + 1) := by
    have := Nat.max_le.mpr ⟨hv1, hv2⟩
    omega
  have hv0 : 1 ≤ v := by omega
  refine ⟨⟨?_, ?_, ?_, ?_, ?_, ?_, ?_⟩, hvb⟩
  · exact BPl_frame (fun o h6 h7 h10 => by rw [bs_o h10, bs_o h7, bs_o h6]) hB
  · rw [u1_sum hm, he]
  · intro m' hm'
    by_cases c : m' = m
    · subst c
      rw [u1_at]
      exact ⟨by rw [bs_r, if_pos ⟨rfl, rfl⟩], by omega⟩
    · rw [u1_ne c]
      exact ⟨by rw [bs_r, if_neg (fun q => c q.2), bs_r, if_neg (by omega), bs_r, if_neg (by omega)]; exact (hre m' hm').1, (hre m' hm').2⟩
  · intro u hu
    have b6 : bs (bs (bs B 6 t (nI v)) 7 e (nI t)) 10 m (nI (re m + 1)) 6 u = if u = t then nI v else B 6 u := by
      rw [bs_r, if_neg (by omega), bs_r, if_neg (by omega), bs_r]
      by_cases c : u = t
      · rw [if_pos c, if_pos ⟨rfl, c⟩]
      · rw [if_neg c, if_neg (fun q => c q.2)]
    rw [b6]
    constructor
    · intro hd
      by_cases c : u = t
      · subst c
        rw [if_pos rfl, u1_at]
        refine ⟨rfl, hv0, hvb, ?_, fun q => (hdn _ (hfn q).1).mpr (Or.inl (hfn q).2), fun q => (hdn _ (han q).1).mpr (Or.inl (han q).2)⟩
        rw [e0_u1 (x := fr P u) (t := u) (fun q w => hnd (w ▸ (hfn q).2)), e0_u1 (x := pa P u) (t := u) (fun q w => hnd (w ▸ (han q).2))]
        exact hv.symm
      · have hd0 : dn P re u := by
          rcases (hdn u hu).mp hd with q | q
          · exact q
          · exact absurd q c
        rw [if_neg c, u1_ne c]
        obtain ⟨a1, a2, a3, a4, a5, a6⟩ := (hE u hu).1 hd0
        have hfu : fr P u < 24 → fr P u < pn P := fun q => (fr_lt hn q).1
        have hau : pa P u < 24 → pa P u < pn P := fun q => by rcases (hP.2.1 u hu).2.2.2.1 with w | w <;> omega
        refine ⟨a1, a2, by omega, ?_, fun q => (hdn _ (hfu q)).mpr (Or.inl (a5 q)), fun q => (hdn _ (hau q)).mpr (Or.inl (a6 q))⟩
        rw [e0_u1 (x := fr P u) (t := t) (fun q w => hnd (w ▸ a5 q)), e0_u1 (x := pa P u) (t := t) (fun q w => hnd (w ▸ a6 q))]
        exact a4
    · intro hd
      have c : u ≠ t := fun q => hd ((hdn u hu).mpr (Or.inr q))
      rw [if_neg c]
      exact (hE u hu).2 (fun q => hd ((hdn u hu).mpr (Or.inl q)))
  · intro i hi
    have b7 : bs (bs (bs B 6 t (nI v)) 7 e (nI t)) 10 m (nI (re m + 1)) 7 i = if i = e then nI t else B 7 i := by
      rw [bs_r, if_neg (by omega), bs_r]
      by_cases c : i = e
      · rw [if_pos c, if_pos ⟨rfl, c⟩]
      · rw [if_neg c, if_neg (fun q => c q.2), bs_r, if_neg (by omega)]
    rw [b7]
    by_cases c : i = e
    · subst c
      rw [if_pos rfl, u1_at]
      refine ⟨rfl, t1, (hdn t t1).mpr (Or.inr rfl), fun q => ?_, fun q => ?_⟩
      · obtain ⟨j, hj, e1⟩ := hall _ (hfn q).1 (hfn q).2
        exact ⟨j, hj, by rw [u1_ne (by omega)]; exact e1⟩
      · obtain ⟨j, hj, e1⟩ := hall _ (han q).1 (han q).2
        exact ⟨j, hj, by rw [u1_ne (by omega)]; exact e1⟩
    · rw [if_neg c, u1_ne c]
      obtain ⟨a1, a2, a3, a4, a5⟩ := ho i (by omega)
      refine ⟨a1, a2, (hdn _ a2).mpr (Or.inl a3), fun q => ?_, fun q => ?_⟩
      · obtain ⟨j, hj, e1⟩ := a4 q
        exact ⟨j, hj, by rw [u1_ne (by omega)]; exact e1⟩
      · obtain ⟨j, hj, e1⟩ := a5 q
        exact ⟨j, hj, by rw [u1_ne (by omega)]; exact e1⟩
  · intro u hu hd
    rcases (hdn u hu).mp hd with q | q
    · obtain ⟨i, hi, e1⟩ := hall u hu q
      exact ⟨i, by omega, by rw [u1_ne (by omega)]; exact e1⟩
    · exact ⟨e, by omega, by rw [u1_at]; exact q.symm⟩
  · intro i j hi hj e1
    by_cases ci : i = e
    · by_cases cj : j = e
      · omega
      · rw [ci, u1_at, u1_ne cj] at e1
        exact absurd (ho j (by omega)).2.2.1 (e1 ▸ hnd)
    · by_cases cj : j = e
      · rw [cj, u1_at, u1_ne ci] at e1
        exact absurd (ho i (by omega)).2.2.1 (e1 ▸ hnd)
      · rw [u1_ne ci, u1_ne cj] at e1
        exact hinj i j (by omega) (by omega) e1
/-- where a row can't go on -/
def stuck (P : PD) (re : Nat → Nat) (e m : Nat) : Prop := e = pn P ∨ re m = cn P m ∨ (pa P (ra P m (re m)) < 24 ∧ ¬ dn P re (pa P (ra P m (re m))))
theorem p_scheduleRow {P : PD} (hP : Pln P) {m : Nat} (hm : m < 4) {B : Blk} {e : Nat} {re E od : Nat → Nat} (h : SI P B e re E od) :
    ∃ (B' : Blk) (e' : Nat) (re' E' od' : Nat → Nat), FX4_scheduleRow B (nI m) (nI e) = some (nI e', B') ∧ SI P B' e' re' E' od' ∧ (∀ o, o ≠ 6 → o ≠ 7 → o ≠ 10 → B' o = B o) ∧ e ≤ e' ∧ (∀ m', re m' ≤ re' m') ∧ (e' = e → re' = re) ∧ stuck P re' e' m := by
  have hn := hP.1
  have key : ∀ d fuel (B : Blk) (e : Nat) (re E od : Nat → Nat), SI P B e re E od → cn P m - re m = d → d < fuel →
      ∃ (B' : Blk) (e' : Nat) (re' E' od' : Nat → Nat), FX4_scheduleRow_18 fuel (nI m) (nI e) (nI (e0 E (fz P m (re m)))) B = some (nI e', B') ∧ SI P B' e' re' E' od' ∧ (∀ o, o ≠ 6 → o ≠ 7 → o ≠ 10 → B' o = B o) ∧ e ≤ e' ∧ (∀ m', re m' ≤ re' m') ∧ (e' = e → re' = re) ∧ stuck P re' e' m := by
    intro d
    induction d with
    | zero =>
      intro fuel B e re E od h hd hf
      obtain ⟨k, rfl⟩ : ∃ k, fuel = k + 1 := ⟨fuel - 1, by omega⟩
      have hB := h.1
      obtain ⟨h10, hrc⟩ := h.2.2.1 m hm
      have hc := cn_le hP m
      refine ⟨B, e, re, E, od, ?_, h, fun _ _ _ _ => rfl, Nat.le_refl _, fun _ => Nat.le_refl _, fun _ => rfl, Or.inr (Or.inl (by omega))⟩
      show FX4_scheduleRow_18s _ _ _ _ _ = _
      unfold FX4_scheduleRow_18s
      rw [ld_nI hm (by decide), ld_nI hm (by decide), h10, hB.2.2.1 m hm, le_nI (by omega) (by omega), if_pos (by omega)]
    | succ d ih =>
      intro fuel B e re E od h hd hf
      obtain ⟨k, rfl⟩ : ∃ k, fuel = k + 1 := ⟨fuel - 1, by omega⟩
      have hB := h.1
      have hle := SI_le hP h
      obtain ⟨h10, hrc⟩ := h.2.2.1 m hm
      have hc := cn_le hP m
      have hr : re m < cn P m := by omega
      show ∃ (B' : Blk) (e' : Nat) (re' E' od' : Nat → Nat), FX4_scheduleRow_18s _ _ _ _ _ = _ ∧ _
      unfold FX4_scheduleRow_18s
      rw [ld_nI hm (by decide), ld_nI hm (by decide), h10, hB.2.2.1 m hm, le_nI (by omega) (by omega), if_neg (by omega), hB.1, le_nI (by omega) (by omega)]
      by_cases ce : pn P ≤ e
      · rw [if_pos ce]
        exact ⟨B, e, re, E, od, rfl, h, fun _ _ _ _ => rfl, Nat.le_refl _, fun _ => Nat.le_refl _, fun _ => rfl, Or.inl (by omega)⟩
      · rw [if_neg ce, ld_nI hm (by decide), h10, p_inRow hP hB hm (by omega), c1_eq]
        obtain ⟨t1, t2, t3⟩ := ra_some hP hm hr
        obtain ⟨t, ht⟩ : ∃ t, ra P m (re m) = t := ⟨_, rfl⟩
        rw [ht] at t1 t2 t3 ⊢
        obtain ⟨-, hd1, hd2, hpa, hpl⟩ := hP.2.1 t t1
        have hpo := pa_or hP t1
        rw [aI_lt (by omega), p_has_nI hB.1 hn t1, c1_eq, if_neg (by decide), ld_nI (by omega) (by decide), (hB.2.1 t t1).2.2, p_has_aI hB.1 hn hpo, c1_eq, ite_bool]
        -- the step itself
        have step : (pa P t < 24 → dn P re (pa P t)) → ∃ (B' : Blk) (e' : Nat) (re' E' od' : Nat → Nat), FX4_scheduleRow_94 (FX4_scheduleRow_18 k) (nI m) (nI e) (nI (e0 E (fz P m (re m)))) (nI t) B = some (nI e', B') ∧ SI P B' e' re' E' od' ∧ (∀ o, o ≠ 6 → o ≠ 7 → o ≠ 10 → B' o = B o) ∧ e ≤ e' ∧ (∀ m', re m' ≤ re' m') ∧ (e' = e → re' = re) ∧ stuck P re' e' m := by
          intro hb
          obtain ⟨v, hv⟩ : ∃ v, max (e0 E (fz P m (re m))) (e0 E (pa P t)) + pd P t = v := ⟨_, rfl⟩
          obtain ⟨hS, hvb⟩ := SI_step hP h hm hr ht hv hb
          have hend : FX4_endOf B (aI (pa P t)) = some (nI (e0 E (pa P t))) := by
            by_cases c : pa P t < 24
            · have hlt : pa P t < pn P := by omega
              rw [aI_lt c, p_endOf_x hB.1 hn hlt, ((h.2.2.2.1 _ hlt).1 (hb c)).1]
              unfold e0
              rw [if_pos c]
            · have e99 : pa P t = 99 := by omega
              rw [e99]; rfl
          have hfe : fz P m (re m) < 24 → e0 E (fz P m (re m)) < 2 ^ 31 := by omega
          unfold FX4_scheduleRow_94
          rw [ld_nI (by omega) (by decide), (hB.2.1 t t1).2.2, hend, c1_eq, lt1_eq, max_nI (by omega) (by omega), ld_nI (by omega) (by decide), (hB.2.1 t t1).2.1, lt1_eq, nI_add, hv, stb_nI (by omega) (by decide), stb_nI (by omega) (by decide), lt1_eq, ld_nI hm (by decide), bs_r, if_neg (by omega), bs_r, if_neg (by omega), h10, k1, nI_add, nI_add, stb_nI hm (by decide)]
          have hfz : v = e0 (u1 E t v) (fz P m (u1 re m (re m + 1) m)) := by
            rw [u1_at]
            unfold fz
            rw [if_neg (by omega), Nat.add_sub_cancel, ht]
            unfold e0
            rw [if_pos (by omega), u1_at]
          obtain ⟨B', e', re', E', od', g1, g2, g3, g4, g5, g6, g7⟩ := ih k _ _ _ _ _ hS (by rw [u1_at]; omega) (by omega)
          rw [← hfz] at g1
          refine ⟨B', e', re', E', od', g1, g2, fun o h6 h7 h10 => ?_, by omega, fun m' => ?_, fun q => by omega, g7⟩
          · rw [g3 o h6 h7 h10, bs_o h10, bs_o h7, bs_o h6]
          · have := g5 m'
            by_cases c : m' = m
            · rw [c] at this ⊢
              rw [u1_at] at this
              omega
            · rw [u1_ne c] at this
              exact this
        by_cases c : pa P t < 24
        · have hlt : pa P t < pn P := by omega
          rw [if_pos c, ld_nI (by omega) (by decide), (hB.2.1 t t1).2.2, aI_lt c, p_endOf_x hB.1 hn hlt, c1_eq]
          by_cases cd : dn P re (pa P t)
          · obtain ⟨a1, a2, a3, -⟩ := (h.2.2.2.1 _ hlt).1 cd
            rw [a1, if_neg (nI_ne0 (by omega) (by omega))]
            exact step (fun _ => cd)
          · rw [(h.2.2.2.1 _ hlt).2 cd, if_pos (show nI 0 = 0 from rfl)]
            exact ⟨B, e, re, E, od, rfl, h, fun _ _ _ _ => rfl, Nat.le_refl _, fun _ => Nat.le_refl _, fun _ => rfl, Or.inr (Or.inr (by rw [ht]; exact ⟨c, cd⟩))⟩
        · rw [if_neg c]
          exact step (fun q => absurd q c)
  obtain ⟨h10, hrc⟩ := h.2.2.1 m hm
  have hc := cn_le hP m
  have hfree : FX4_endOf B (aI (fz P m (re m))) = some (nI (e0 E (fz P m (re m)))) := by
    by_cases c : fz P m (re m) < 24
    · have c0 : re m ≠ 0 := fun q => by unfold fz at c; rw [if_pos q] at c; omega
      obtain ⟨f1, f2, f3⟩ := ra_some hP hm (show re m - 1 < cn P m by omega)
      have e1 : fz P m (re m) = ra P m (re m - 1) := by unfold fz; rw [if_neg c0]
      rw [e1] at c ⊢
      rw [aI_lt c, p_endOf_x h.1.1 hn f1, ((h.2.2.2.1 _ f1).1 (by unfold dn; rw [f2, f3]; omega)).1]
      unfold e0
      rw [if_pos c]
    · unfold e0
      rw [if_neg c, aI_ge c]
      rfl
  unfold FX4_scheduleRow
  rw [ld_nI hm (by decide), h10, p_inRow_pred hP h.1 hm (by omega), c1_eq]
  change ∃ (B' : Blk) (e' : Nat) (re' E' od' : Nat → Nat), c1 (FX4_endOf B (aI (fz P m (re m)))) _ = _ ∧ _
  rw [hfree, c1_eq]
  exact key (cn P m - re m) fu B e re E od h rfl (fu_gt (by omega))
/-- what a whole row of passes leaves: all done, or no order exists -/
theorem SI_topo {P : PD} {B : Blk} {re E od : Nat → Nat} (hP : Pln P) (h : SI P B (pn P) re E od) : Ends P (pd P) E ∧ Topo P od ∧ (∀ t, t < pn P → B 6 t = nI (E t)) ∧ ∀ i, i < pn P → B 7 i = nI (od i) := by
  have hs := cn_sum hP
  obtain ⟨hB, he, hre, hE, ho, hall, hinj⟩ := h
  have a0 := (hre 0 (by omega)).2
  have a1 := (hre 1 (by omega)).2
  have a2 := (hre 2 (by omega)).2
  have a3 := (hre 3 (by omega)).2
  have hd : ∀ t, t < pn P → dn P re t := by
    intro t ht
    obtain ⟨hm, -, -, -, hpl⟩ := hP.2.1 t ht
    unfold dn
    have : pm P t = 0 ∨ pm P t = 1 ∨ pm P t = 2 ∨ pm P t = 3 := by omega
    rcases this with e | e | e | e <;> rw [e] at hpl ⊢ <;> omega
  exact ⟨fun t ht => ((hE t ht).1 (hd t ht)).2.2.2.1, ⟨fun i hi => (ho i hi).2.1, fun t ht => hall t ht (hd t ht), hinj, fun i hi => (ho i hi).2.2.2⟩, fun t ht => ((hE t ht).1 (hd t ht)).1, fun i hi => (ho i hi).1⟩
/-- a number that grows along each wait: where there is one, nothing waits for itself -/
def Rank (P : PD) (rk : Nat → Nat) : Prop := ∀ t, t < pn P → (fr P t < 24 → rk (fr P t) < rk t) ∧ (pa P t < 24 → rk (pa P t) < rk t)
/-- if nothing waits for itself and not all are done, some row isn't stuck -/
theorem SI_go {P : PD} {B : Blk} {e : Nat} {re E od rk : Nat → Nat} (hP : Pln P) (h : SI P B e re E od) (hrk : Rank P rk) (he : e < pn P) : ∃ m, m < 4 ∧ ¬ stuck P re e m := by
  have hn := hP.1
  have hs := cn_sum hP
  obtain ⟨hB, hes, hre, hE, hod, hall, hinj⟩ := h
  -- a task that isn't done
  have hex : ∃ t, t < pn P ∧ ¬ dn P re t := by
    have a0 := (hre 0 (by omega)).2
    have a1 := (hre 1 (by omega)).2
    have a2 := (hre 2 (by omega)).2
    have a3 := (hre 3 (by omega)).2
    have : ∃ m, m < 4 ∧ re m < cn P m := by
      rcases Nat.lt_or_ge (re 0) (cn P 0) with q | q0
      · exact ⟨0, by omega, q⟩
      · rcases Nat.lt_or_ge (re 1) (cn P 1) with q | q1
        · exact ⟨1, by omega, q⟩
        · rcases Nat.lt_or_ge (re 2) (cn P 2) with q | q2
          · exact ⟨2, by omega, q⟩
          · exact ⟨3, by omega, by omega⟩
    obtain ⟨m, hm, hr⟩ := this
    obtain ⟨t1, t2, t3⟩ := ra_some hP hm hr
    exact ⟨_, t1, by unfold dn; rw [t2, t3]; omega⟩
  -- the first such by its number
  have hmin : ∃ t, t < pn P ∧ ¬ dn P re t ∧ ∀ u, u < pn P → rk u < rk t → dn P re u := by
    obtain ⟨t, ht, hd⟩ := hex
    have key : ∀ v t, rk t = v → t < pn P → ¬ dn P re t → ∃ t, t < pn P ∧ ¬ dn P re t ∧ ∀ u, u < pn P → rk u < rk t → dn P re u := by
      intro v
      induction v using Nat.strongRecOn with
      | ind v ih =>
        intro t hv ht hd
        by_cases c : ∃ u, u < pn P ∧ rk u < rk t ∧ ¬ dn P re u
        · obtain ⟨u, hu, h1, h2⟩ := c
          exact ih (rk u) (by omega) u rfl hu h2
        · exact ⟨t, ht, hd, fun u hu h1 => Classical.byContradiction fun q => c ⟨u, hu, h1, q⟩⟩
    exact key (rk t) t rfl ht hd
  obtain ⟨t, ht, hd, hbef⟩ := hmin
  obtain ⟨h1, h2⟩ := hrk t ht
  obtain ⟨hm, -, -, -, hpl⟩ := hP.2.1 _ ht
  have hpos : pp P t = re (pm P t) := by
    have g1 : re (pm P t) ≤ pp P t := by unfold dn at hd; omega
    by_cases c : pp P t = 0
    · omega
    · have f1 := fr_some hP ht c
      obtain ⟨-, f2, f3⟩ := fr_lt hn (show fr P t < 24 by omega)
      have g2 := hbef _ f1 (h1 (by omega))
      unfold dn at g2
      rw [f2] at g2
      omega
  refine ⟨pm P t, hm, ?_⟩
  rintro (q | q | ⟨q1, q2⟩)
  · omega
  · omega
  · rw [← hpos, ra_of hP ht] at q1 q2
    have hpo := pa_or hP ht
    exact q2 (hbef _ (by omega) (h2 q1))
theorem p_pass {P : PD} (hP : Pln P) (k47 : Int32 → Int32 → Blk → Option (Int32 × Blk)) (l2 : Int32) {B : Blk} {e : Nat} {re E od : Nat → Nat} (h : SI P B e re E od) :
    ∃ (B' : Blk) (e' : Nat) (re' E' od' : Nat → Nat), FX4_schedule_65 k47 fu (nI e) l2 (nI 0) B = k47 (nI e') (l2 + 1) B' ∧ SI P B' e' re' E' od' ∧ (∀ o, o ≠ 6 → o ≠ 7 → o ≠ 10 → B' o = B o) ∧ e ≤ e' ∧ ((∃ rk, Rank P rk) → e < pn P → e < e') := by
  have hn := hP.1
  have key : ∀ d m fuel (B : Blk) (e : Nat) (re E od : Nat → Nat), m + d = 4 → d < fuel → SI P B e re E od →
      ∃ (B' : Blk) (e' : Nat) (re' E' od' : Nat → Nat), FX4_schedule_65 k47 fuel (nI e) l2 (nI m) B = k47 (nI e') (l2 + 1) B' ∧ SI P B' e' re' E' od' ∧ (∀ o, o ≠ 6 → o ≠ 7 → o ≠ 10 → B' o = B o) ∧ e ≤ e' ∧ (e' = e → re' = re ∧ ∀ m', m ≤ m' → m' < 4 → stuck P re e m') := by
    intro d
    induction d with
    | zero =>
      intro m fuel B e re E od hm hf h
      obtain ⟨k, rfl⟩ : ∃ k, fuel = k + 1 := ⟨fuel - 1, by omega⟩
      have e4 : m = 4 := by omega
      subst e4
      refine ⟨B, e, re, E, od, ?_, h, fun _ _ _ _ => rfl, Nat.le_refl _, fun _ => ⟨rfl, fun m' h1 h2 => by omega⟩⟩
      show FX4_schedule_65s _ _ _ _ _ _ = _
      unfold FX4_schedule_65s
      rw [k4, le_nI (by decide) (by decide), if_pos (by omega), lt1_eq]
    | succ d ih =>
      intro m fuel B e re E od hm hf h
      obtain ⟨k, rfl⟩ : ∃ k, fuel = k + 1 := ⟨fuel - 1, by omega⟩
      obtain ⟨B1, e1, re1, E1, od1, g1, g2, g3, g4, g5, g6, g7⟩ := p_scheduleRow hP (show m < 4 by omega) h
      obtain ⟨B2, e2, re2, E2, od2, f1, f2, f3, f4, f5⟩ := ih (m + 1) k B1 e1 re1 E1 od1 (by omega) (by omega) g2
      refine ⟨B2, e2, re2, E2, od2, ?_, f2, fun o h6 h7 h10 => by rw [f3 o h6 h7 h10, g3 o h6 h7 h10], by omega, fun q => ?_⟩
      · show FX4_schedule_65s _ _ _ _ _ _ = _
        unfold FX4_schedule_65s
        rw [k4, le_nI (by decide) (by omega), if_neg (by omega), g1, c2_eq, lt1_eq, k1, nI_add]
        exact f1
      · have ee : e1 = e := by omega
        obtain ⟨r1, r2⟩ := f5 (by omega)
        have r3 := g6 ee
        rw [r3] at r1
        refine ⟨r1, fun m' h1 h2 => ?_⟩
        by_cases c : m' = m
        · subst c
          rw [r3, ee] at g7
          exact g7
        · have := r2 m' (by omega) h2
          rw [r3, ee] at this
          exact this
  obtain ⟨B', e', re', E', od', g1, g2, g3, g4, g5⟩ := key 4 0 fu B e re E od (by omega) (fu_gt (by omega)) h
  refine ⟨B', e', re', E', od', g1, g2, g3, g4, fun ⟨o, ho⟩ hlt => ?_⟩
  rcases Nat.lt_or_ge e e' with q | q
  · exact q
  · obtain ⟨m, hm, hs⟩ := SI_go hP h ho hlt
    exact absurd ((g5 (by omega)).2 m (by omega) hm) hs
theorem p_schedule {B : Blk} {P : PD} (hP : Pln P) (hB : BPl B P) : ∃ B' : Blk, (∀ o, o ≠ 6 → o ≠ 7 → o ≠ 10 → B' o = B o) ∧
    ((FX4_schedule B = some (1, B') ∧ ∃ E od : Nat → Nat, Ends P (pd P) E ∧ Topo P od ∧ (∀ t, t < pn P → B' 6 t = nI (E t)) ∧ ∀ i, i < pn P → B' 7 i = nI (od i)) ∨ (FX4_schedule B = some (0, B') ∧ ∀ rk, ¬ Rank P rk)) := by
  have hn := hP.1
  -- the rows begun anew
  have key1 : ∀ d m fuel (B : Blk), m + d = 4 → d < fuel → (∀ m', m' < m → B 10 m' = nI 0) → ∃ B' : Blk, FX4_schedule_2 fuel (nI m) B = FX4_schedule_22 fu (0 : Int32) B' ∧ (∀ m', m' < 4 → B' 10 m' = nI 0) ∧ ∀ o, o ≠ 10 → B' o = B o := by
    intro d
    induction d with
    | zero =>
      intro m fuel B hm hf h
      obtain ⟨k, rfl⟩ : ∃ k, fuel = k + 1 := ⟨fuel - 1, by omega⟩
      have e4 : m = 4 := by omega
      subst e4
      refine ⟨B, ?_, h, fun _ _ => rfl⟩
      show FX4_schedule_2s _ _ _ = _
      unfold FX4_schedule_2s
      rw [k4, le_nI (by decide) (by decide), if_pos (by omega)]
    | succ d ih =>
      intro m fuel B hm hf h
      obtain ⟨k, rfl⟩ : ∃ k, fuel = k + 1 := ⟨fuel - 1, by omega⟩
      obtain ⟨B', g1, g2, g3⟩ := ih (m + 1) k (bs B 10 m (nI 0)) (by omega) (by omega) (fun m' hm' => by
        rw [bs_r]
        by_cases c : m' = m
        · rw [if_pos ⟨rfl, c⟩]
        · rw [if_neg (fun q => c q.2)]; exact h m' (by omega))
      refine ⟨B', ?_, g2, fun o ho => by rw [g3 o ho, bs_o ho]⟩
      show FX4_schedule_2s _ _ _ = _
      unfold FX4_schedule_2s
      rw [k4, le_nI (by decide) (by omega), if_neg (by omega), stb_nI (by omega) (by decide), lt1_eq, k1, nI_add]
      exact g1
  have key2 : ∀ d t fuel (B : Blk), B 1 0 = nI (pn P) → t + d = pn P → d < fuel → (∀ t', t' < t → B 6 t' = nI 0) → ∃ B' : Blk, FX4_schedule_22 fuel (nI t) B = FX4_schedule_47 fu (0 : Int32) (0 : Int32) B' ∧ (∀ t', t' < pn P → B' 6 t' = nI 0) ∧ ∀ o, o ≠ 6 → B' o = B o := by
    intro d
    induction d with
    | zero =>
      intro t fuel B h1 ht hf h
      obtain ⟨k, rfl⟩ : ∃ k, fuel = k + 1 := ⟨fuel - 1, by omega⟩
      have et : t = pn P := by omega
      subst et
      refine ⟨B, ?_, h, fun _ _ => rfl⟩
      show FX4_schedule_22s _ _ _ = _
      unfold FX4_schedule_22s
      rw [h1, le_nI (by omega) (by omega), if_pos (by omega)]
    | succ d ih =>
      intro t fuel B h1 ht hf h
      obtain ⟨k, rfl⟩ : ∃ k, fuel = k + 1 := ⟨fuel - 1, by omega⟩
      obtain ⟨B', g1, g2, g3⟩ := ih (t + 1) k (bs B 6 t (nI 0)) (by rw [bs_o (by omega)]; exact h1) (by omega) (by omega) (fun m' hm' => by
        rw [bs_r]
        by_cases c : m' = t
        · rw [if_pos ⟨rfl, c⟩]
        · rw [if_neg (fun q => c q.2)]; exact h m' (by omega))
      refine ⟨B', ?_, g2, fun o ho => by rw [g3 o ho, bs_o ho]⟩
      show FX4_schedule_22s _ _ _ = _
      unfold FX4_schedule_22s
      rw [h1, le_nI (by omega) (by omega), if_neg (by omega), stb_nI (by omega) (by decide), lt1_eq, k1, nI_add]
      exact g1
  -- the passes
  have key3 : ∀ d r fuel (B : Blk) (e : Nat) (re E od : Nat → Nat), SI P B e re E od → r + d = pn P → d < fuel → ((∃ rk, Rank P rk) → r ≤ e) →
      ∃ (B' : Blk) (e' : Nat) (re' E' od' : Nat → Nat), FX4_schedule_47 fuel (nI e) (nI r) B = FX4_schedule_89 (nI e') B' ∧ SI P B' e' re' E' od' ∧ (∀ o, o ≠ 6 → o ≠ 7 → o ≠ 10 → B' o = B o) ∧ ((∃ rk, Rank P rk) → e' = pn P) := by
    intro d
    induction d with
    | zero =>
      intro r fuel B e re E od h hr hf hp
      obtain ⟨k, rfl⟩ : ∃ k, fuel = k + 1 := ⟨fuel - 1, by omega⟩
      have hle := SI_le hP h
      refine ⟨B, e, re, E, od, ?_, h, fun _ _ _ _ => rfl, fun q => by have := hp q; omega⟩
      show FX4_schedule_47s _ _ _ _ = _
      unfold FX4_schedule_47s
      rw [h.1.1, le_nI (by omega) (by omega), if_pos (by omega)]
    | succ d ih =>
      intro r fuel B e re E od h hr hf hp
      obtain ⟨k, rfl⟩ : ∃ k, fuel = k + 1 := ⟨fuel - 1, by omega⟩
      have hle := SI_le hP h
      show ∃ (B' : Blk) (e' : Nat) (re' E' od' : Nat → Nat), FX4_schedule_47s _ _ _ _ = _ ∧ _
      unfold FX4_schedule_47s
      rw [h.1.1, le_nI (by omega) (by omega), if_neg (by omega), le_nI (by omega) (by omega)]
      by_cases c : pn P ≤ e
      · rw [if_pos c]
        exact ⟨B, e, re, E, od, rfl, h, fun _ _ _ _ => rfl, fun _ => by omega⟩
      · rw [if_neg c]
        obtain ⟨B1, e1, re1, E1, od1, g1, g2, g3, g4, g5⟩ := p_pass hP (FX4_schedule_47 k) (nI r) h
        obtain ⟨B2, e2, re2, E2, od2, f1, f2, f3, f4⟩ := ih (r + 1) k B1 e1 re1 E1 od1 g2 (by omega) (by omega) (fun q => by have a := hp q; have b := g5 q (by omega); omega)
        refine ⟨B2, e2, re2, E2, od2, ?_, f2, fun o h6 h7 h10 => by rw [f3 o h6 h7 h10, g3 o h6 h7 h10], f4⟩
        rw [k0, g1, k1, nI_add]
        exact f1
  obtain ⟨B1, g1, g2, g3⟩ := key1 4 0 fu B (by omega) (fu_gt (by omega)) (fun _ h => by omega)
  have hB1 : BPl B1 P := BPl_frame (fun o _ _ h10 => g3 o h10) hB
  obtain ⟨B2, f1, f2, f3⟩ := key2 (pn P) 0 fu B1 hB1.1 (by omega) (fu_gt (by omega)) (fun _ h => by omega)
  have hB2 : BPl B2 P := BPl_frame (fun o h6 _ _ => f3 o h6) hB1
  have hS : SI P B2 0 (fun _ => 0) (fun _ => 0) (fun _ => 0) := by
    refine ⟨hB2, rfl, fun m hm => ⟨by rw [f3 10 (by omega)]; exact g2 m hm, Nat.zero_le _⟩, fun t ht => ⟨fun q => absurd q (Nat.not_lt_zero _), fun _ => f2 t ht⟩, fun i hi => by omega, fun t ht q => absurd q (Nat.not_lt_zero _), fun i j hi => by omega⟩
  obtain ⟨B3, e3, re3, E3, od3, d1, d2, d3, d4⟩ := key3 (pn P) 0 fu B2 0 _ _ _ hS (by omega) (fu_gt (by omega)) (fun _ => Nat.le_refl _)
  have hle := SI_le hP d2
  have hrun : FX4_schedule B = FX4_schedule_89 (nI e3) B3 := by
    unfold FX4_schedule
    exact g1.trans (f1.trans d1)
  refine ⟨B3, fun o h6 h7 h10 => by rw [d3 o h6 h7 h10, f3 o h6, g3 o h10], ?_⟩
  unfold FX4_schedule_89 at hrun
  rw [d2.1.1, eq_nI (by omega) (by omega)] at hrun
  by_cases c : e3 = pn P
  · rw [if_pos c] at hrun
    subst c
    exact Or.inl ⟨hrun, _, _, SI_topo hP d2⟩
  · rw [if_neg c] at hrun
    exact Or.inr ⟨hrun, fun o ho => c (d4 ⟨o, ho⟩)⟩
