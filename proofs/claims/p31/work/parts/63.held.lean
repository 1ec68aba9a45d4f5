/-! the law's canBeHeld(): rounds over all tasks come to the ends -/
def swp (P : PD) (dd : Nat → Nat) (t : Nat) (e : Nat → Nat) : Nat → Nat := u1 e t (max (e0 e (fr P t)) (e0 e (pa P t)) + dd t)
def rnd (P : PD) (dd : Nat → Nat) (r : Nat) : Nat → Nat := foldN (fun _ e => foldN (swp P dd) (pn P) e) r (fun _ => 0)
theorem e0_le {e F : Nat → Nat} {n x : Nat} (h : ∀ u, u < n → e u ≤ F u) (hx : x < n ∨ x = 99) (hn : n ≤ 24) : e0 e x ≤ e0 F x := by
  unfold e0
  rcases hx with hx | hx
  · rw [if_pos (by omega), if_pos (by omega)]
    exact h x hx
  · rw [if_neg (by omega), if_neg (by omega)]
    exact Nat.le_refl _
theorem swp_in {P : PD} {dd F o : Nat → Nat} (hP : Pln P) (ho : Topo P o) (hF : Ends P dd F) {k : Nat} {e : Nat → Nat} (h1 : ∀ u, u < pn P → e u ≤ F u) (h2 : ∀ i, i < pn P → i < k → e (o i) = F (o i)) : ∀ t, t ≤ pn P → (∀ u, u < pn P → foldN (swp P dd) t e u ≤ F u) ∧ (∀ i, i < pn P → i < k → foldN (swp P dd) t e (o i) = F (o i)) ∧ (k < pn P → o k < t → foldN (swp P dd) t e (o k) = F (o k)) := by
  have hn := hP.1
  intro t
  induction t with
  | zero => exact fun _ => ⟨h1, h2, fun _ q => by omega⟩
  | succ t ih =>
    intro ht
    obtain ⟨i1, i2, i3⟩ := ih (by omega)
    obtain ⟨g, hg⟩ : ∃ g, foldN (swp P dd) t e = g := ⟨_, rfl⟩
    have hgs : foldN (swp P dd) (t + 1) e = swp P dd t g := by rw [foldN, hg]
    rw [hg] at i1 i2 i3
    rw [hgs]
    have hfr := fr_or hn (P := P) t
    have hpa := pa_or hP (t := t) (by omega)
    have hv : max (e0 g (fr P t)) (e0 g (pa P t)) + dd t ≤ F t := by
      rw [hF t (by omega)]
      have a1 := e0_le i1 hfr hn
      have a2 := e0_le i1 hpa hn
      omega
    have pred : ∀ x i, i < pn P → i ≤ k → (x < 24 → ∃ j, j < i ∧ o j = x) → e0 g x = e0 F x := by
      intro x i hi hik hx
      unfold e0
      by_cases c : x < 24
      · obtain ⟨j, hj, e⟩ := hx c
        rw [if_pos c, if_pos c, ← e]
        exact i2 j (by omega) (by omega)
      · rw [if_neg c, if_neg c]
    have at_pos : ∀ i, i < pn P → i ≤ k → o i = t → max (e0 g (fr P t)) (e0 g (pa P t)) + dd t = F t := by
      intro i hi hik e
      obtain ⟨q1, q2⟩ := ho.2.2.2 i hi
      rw [e] at q1 q2
      rw [hF t (by omega), pred _ i hi hik q1, pred _ i hi hik q2]
    unfold swp
    refine ⟨fun u hu => ?_, fun i hi hik => ?_, fun hk hkt => ?_⟩
    · by_cases c : u = t
      · subst c; rw [u1_at]; exact hv
      · rw [u1_ne c]; exact i1 u hu
    · by_cases c : o i = t
      · rw [c, u1_at]; exact at_pos i hi (by omega) c
      · rw [u1_ne c]; exact i2 i hi hik
    · by_cases c : o k = t
      · rw [c, u1_at]; exact at_pos k hk (by omega) c
      · rw [u1_ne c]; exact i3 hk (by omega)
theorem rnd_ok {P : PD} {dd F o : Nat → Nat} (hP : Pln P) (ho : Topo P o) (hF : Ends P dd F) : ∀ r, (∀ u, u < pn P → rnd P dd r u ≤ F u) ∧ ∀ i, i < pn P → i < r → rnd P dd r (o i) = F (o i) := by
  intro r
  induction r with
  | zero => exact ⟨fun u _ => Nat.zero_le _, fun i _ q => by omega⟩
  | succ r ih =>
    obtain ⟨j1, j2, j3⟩ := swp_in hP ho hF ih.1 ih.2 (pn P) (Nat.le_refl _)
    have e : rnd P dd (r + 1) = foldN (swp P dd) (pn P) (rnd P dd r) := rfl
    rw [e]
    refine ⟨j1, fun i hi hir => ?_⟩
    by_cases c : i = r
    · subst c; exact j3 hi (ho.1 i hi)
    · exact j2 i hi (by omega)
theorem rnd_end {P : PD} {dd F o : Nat → Nat} (hP : Pln P) (ho : Topo P o) (hF : Ends P dd F) {u : Nat} (hu : u < pn P) : rnd P dd (pn P + 1) u = F u := by
  obtain ⟨i, hi, rfl⟩ := ho.2.1 u hu
  exact (rnd_ok hP ho hF _).2 i hi (by omega)
/-- the law's own row holds e; all else is as in M -/
def HR (M M1 : Mem) (n : Nat) (e : Nat → Nat) : Prop := (∀ i, i ≠ 12 → M1 i = M i) ∧ ∀ u, u < n → M1 12 0 u = nI (e u)
theorem HR.row {M M1 : Mem} {n : Nat} {e : Nat → Nat} (h : HR M M1 n e) {x : Nat} (hx : x < n ∨ x = 99) (hn : n ≤ 24) {α : Type} (K : Int32 → Option α) : (if aI x < 0 then K 0 else ld (M1 12 0) 24 (aI x) K) = K (nI (e0 e x)) := by
  unfold e0
  rcases hx with hx | hx
  · rw [aI_lt (by omega), if_neg (nneg (by omega)), ld_nI (by omega) (by decide), h.2 x hx, if_pos (by omega)]
  · subst hx
    rw [aI_99, if_pos (by decide), if_neg (by decide)]; rfl
theorem HR.set {M M1 : Mem} {n : Nat} {e : Nat → Nat} (h : HR M M1 n e) {t v : Nat} : HR M (jb M1 12 (bs (M1 12) 0 t (nI v))) n (u1 e t v) := by
  refine ⟨fun i hi => by rw [jb_ne hi]; exact h.1 i hi, fun u hu => ?_⟩
  rw [jb_at]
  by_cases c : u = t
  · subst c; rw [bs_kk, u1_at]
  · rw [bs_kn c, u1_ne c]; exact h.2 u hu
abbrev hdd (P : PD) (t h : Nat) : Nat → Nat := fun u => pd P u + (if u = t then h else 0)
theorem held_in {M : Mem} {P : PD} {E o y F : Nat → Nat} (h : StB (M 0) P E o y) {hd hh : Nat} (hhd : hd < pn P) (hhh : hh ≤ 5001) (hF : Ends P (hdd P hd hh) F) (hFb : ∀ u, u < pn P → F u ≤ 200000) {k24 : Int32 → Int32 → Int32 → Int32 → Mem → Option (Int32 × Mem)} {l5 : Int32} {e : Nat → Nat} (he : ∀ u, u < pn P → e u ≤ F u) : ∀ m t fuel M1, pn P - t = m → t ≤ pn P → m < fuel → HR M M1 (pn P) (foldN (swp P (hdd P hd hh)) t e) → ∃ M2, HR M M2 (pn P) (foldN (swp P (hdd P hd hh)) (pn P) e) ∧ FL_canBeHeld_33 k24 fuel (nI (pn P)) (nI hd) (nI hh) l5 (nI t) M1 = k24 (nI (pn P)) (nI hd) (nI hh) (l5 + 1) M2 := by
  have hn := h.n
  intro m
  induction m with
  | zero =>
    intro t fuel M1 hm ht hf hR
    obtain ⟨k, rfl⟩ : ∃ k, fuel = k + 1 := ⟨fuel - 1, by omega⟩
    have e1 : t = pn P := by omega
    subst e1
    refine ⟨M1, hR, ?_⟩
    show FL_canBeHeld_33s _ _ _ _ _ _ _ _ = _
    unfold FL_canBeHeld_33s
    rw [le_nI (by omega) (by omega), if_pos (Nat.le_refl _), lt1_eq]
  | succ m ih =>
    intro t fuel M1 hm ht hf hR
    obtain ⟨k, rfl⟩ : ∃ k, fuel = k + 1 := ⟨fuel - 1, by omega⟩
    have ht' : t < pn P := by omega
    have h1 : StB (M1 0) P E o y := by rw [hR.1 0 (by decide)]; exact h
    have hfr := fr_or hn (P := P) t
    have hpa := pa_or h.pl ht'
    obtain ⟨g, hg⟩ : ∃ g, foldN (swp P (hdd P hd hh)) t e = g := ⟨_, rfl⟩
    have hgb := (swp_in h.pl h.tp hF (k := 0) he (fun i _ q => by omega) t (by omega)).1
    rw [hg] at hR hgb
    have b1 := e0_le hgb hfr hn
    have b2 := e0_le hgb hpa hn
    have b3 : e0 F (fr P t) ≤ 200000 := by
      unfold e0
      split
      · rename_i c; rcases hfr with q | q
        · exact hFb _ q
        · omega
      · omega
    have b4 : e0 F (pa P t) ≤ 200000 := by
      unfold e0
      split
      · rename_i c; rcases hpa with q | q
        · exact hFb _ q
        · omega
      · omega
    obtain ⟨a, ha⟩ : ∃ a, e0 g (fr P t) = a := ⟨_, rfl⟩
    obtain ⟨b, hb⟩ : ∃ b, e0 g (pa P t) = b := ⟨_, rfl⟩
    have hpd := (h.pl.2.1 t ht').2.2.1
    have hsw : foldN (swp P (hdd P hd hh)) (t + 1) e = u1 g t (max a b + (pd P t + if t = hd then hh else 0)) := by
      rw [foldN, hg, ← ha, ← hb]; rfl
    have hR2 := hR.set (t := t) (v := max a b + (pd P t + if t = hd then hh else 0))
    rw [← hsw] at hR2
    obtain ⟨M2, r1, r2⟩ := ih (t + 1) k _ (by omega) (by omega) (by omega) hR2
    refine ⟨M2, r1, ?_⟩
    have g124 : ∀ s0 : Nat, s0 = (if t = hd then hh else 0) → FL_canBeHeld_124 k24 (FL_canBeHeld_33 k24 k) (nI (pn P)) (nI hd) (nI hh) l5 (nI t) (nI s0) (nI (max a b) + nI (pd P t)) (nI t) M1 = k24 (nI (pn P)) (nI hd) (nI hh) (l5 + 1) M2 := by
      intro s0 hs
      unfold FL_canBeHeld_124
      rw [stm_nI (by omega) (by decide), lt1_eq, nI_add, nI_add, nI_1, Nat.add_assoc, hs]
      exact r2
    have g97 : FL_canBeHeld_97 k24 (FL_canBeHeld_33 k24 k) (nI (pn P)) (nI hd) (nI hh) l5 (nI t) (nI (max a b)) M1 = k24 (nI (pn P)) (nI hd) (nI hh) (l5 + 1) M2 := by
      unfold FL_canBeHeld_97
      rw [o1 h1 ht', c2_eq, eq_nI (by omega) (by omega)]
      by_cases c : t = hd
      · rw [if_pos c]; exact g124 hh (by rw [if_pos c])
      · rw [if_neg c]; exact g124 0 (by rw [if_neg c])
    have g70 : FL_canBeHeld_70 k24 (FL_canBeHeld_33 k24 k) (nI (pn P)) (nI hd) (nI hh) l5 (nI t) (aI (pa P t)) (nI a) M1 = k24 (nI (pn P)) (nI hd) (nI hh) (l5 + 1) M2 := by
      unfold FL_canBeHeld_70 FL_canBeHeld_95
      rcases hpa with c | c
      · have eb : g (pa P t) = b := by rw [← hb]; unfold e0; rw [if_pos (by omega)]
        rw [aI_lt (by omega), if_neg (nneg (by omega)), ld_nI (by omega) (by decide), hR.2 _ c, eb, le_nI (by omega) (by omega), ld_nI (by omega) (by decide), hR.2 _ c, eb]
        by_cases d : b ≤ a
        · rw [if_pos d]
          rw [Nat.max_eq_left d] at g97
          exact g97
        · rw [if_neg d]
          rw [Nat.max_eq_right (by omega)] at g97
          exact g97
      · have eb : b = 0 := by rw [← hb, c]; rfl
        rw [c, aI_99, if_pos (by decide)]
        rw [eb, Nat.max_eq_left (by omega)] at g97
        exact g97
    show FL_canBeHeld_33s _ _ _ _ _ _ _ _ = _
    unfold FL_canBeHeld_33s
    rw [le_nI (by omega) (by omega), if_neg (by omega), l_before h1 ht', c2_eq, o2 h1 ht', c2_eq]
    have := hR.row hfr hn (fun r => FL_canBeHeld_70 k24 (FL_canBeHeld_33 k24 k) (nI (pn P)) (nI hd) (nI hh) l5 (nI t) (aI (pa P t)) r M1)
    rw [ha] at this
    exact this.trans g70
theorem held_out {M : Mem} {P : PD} {E o y F : Nat → Nat} (h : StB (M 0) P E o y) {hd hh : Nat} (hhd : hd < pn P) (hhh : hh ≤ 5001) (hF : Ends P (hdd P hd hh) F) (hFb : ∀ u, u < pn P → F u ≤ 200000) : ∀ m r fuel M1, pn P + 1 - r = m → r ≤ pn P + 1 → m < fuel → HR M M1 (pn P) (rnd P (hdd P hd hh) r) → ∃ M2, HR M M2 (pn P) (rnd P (hdd P hd hh) (pn P + 1)) ∧ FL_canBeHeld_24 fuel (nI (pn P)) (nI hd) (nI hh) (nI r) M1 = FL_canBeHeld_144 fu (nI (pn P)) 1 0 M2 := by
  have hn := h.n
  intro m
  induction m with
  | zero =>
    intro r fuel M1 hm ht hf hR
    obtain ⟨k, rfl⟩ : ∃ k, fuel = k + 1 := ⟨fuel - 1, by omega⟩
    have e1 : r = pn P + 1 := by omega
    subst e1
    refine ⟨M1, hR, ?_⟩
    show FL_canBeHeld_24s _ _ _ _ _ _ = _
    unfold FL_canBeHeld_24s
    rw [lt_nI (by omega) (by omega), if_pos (by omega)]
  | succ m ih =>
    intro r fuel M1 hm ht hf hR
    obtain ⟨k, rfl⟩ : ∃ k, fuel = k + 1 := ⟨fuel - 1, by omega⟩
    obtain ⟨M2, r1, r2⟩ := held_in h hhd hhh hF hFb (k24 := FL_canBeHeld_24 k) (l5 := nI r) (e := rnd P (hdd P hd hh) r) (rnd_ok h.pl h.tp hF r).1 (pn P) 0 fu M1 (by omega) (by omega) (fu_gt (by omega)) hR
    obtain ⟨M3, s1, s2⟩ := ih (r + 1) k M2 (by omega) (by omega) (by omega) r1
    refine ⟨M3, s1, ?_⟩
    show FL_canBeHeld_24s _ _ _ _ _ _ = _
    unfold FL_canBeHeld_24s
    rw [lt_nI (by omega) (by omega), if_neg (by omega)]
    rw [nI_1] at r2
    exact r2.trans s2
theorem held_zero {M : Mem} {n : Nat} (hn : n ≤ 24) {l2 l3 : Int32} : ∀ m t fuel M1, n - t = m → t ≤ n → m < fuel → ((∀ i, i ≠ 12 → M1 i = M i) ∧ ∀ u, u < t → M1 12 0 u = nI 0) → ∃ M2, HR M M2 n (fun _ => 0) ∧ FL_canBeHeld_3 fuel (nI n) l2 l3 (nI t) M1 = FL_canBeHeld_24 fu (nI n) l2 l3 0 M2 := by
  intro m
  induction m with
  | zero =>
    intro t fuel M1 hm ht hf hR
    obtain ⟨k, rfl⟩ : ∃ k, fuel = k + 1 := ⟨fuel - 1, by omega⟩
    have e1 : t = n := by omega
    subst e1
    refine ⟨M1, hR, ?_⟩
    show FL_canBeHeld_3s _ _ _ _ _ _ = _
    unfold FL_canBeHeld_3s
    rw [le_nI (by omega) (by omega), if_pos (Nat.le_refl _)]
  | succ m ih =>
    intro t fuel M1 hm ht hf hR
    obtain ⟨k, rfl⟩ : ∃ k, fuel = k + 1 := ⟨fuel - 1, by omega⟩
    obtain ⟨M2, r1, r2⟩ := ih (t + 1) k (jb M1 12 (bs (M1 12) 0 t 0)) (by omega) (by omega) (by omega) ⟨fun i hi => by rw [jb_ne hi]; exact hR.1 i hi, fun u hu => by
      rw [jb_at]
      by_cases c : u = t
      · subst c; rw [bs_kk]; rfl
      · rw [bs_kn c]; exact hR.2 u (by omega)⟩
    refine ⟨M2, r1, ?_⟩
    show FL_canBeHeld_3s _ _ _ _ _ _ = _
    unfold FL_canBeHeld_3s
    rw [le_nI (by omega) (by omega), if_neg (by omega), stm_nI (by omega) (by decide), lt1_eq, nI_1]
    exact r2
theorem held_test {M : Mem} {P : PD} {E o y e : Nat → Nat} (h : StB (M 0) P E o y) (he : ∀ u, u < pn P → M 12 0 u = nI (e u)) (heb : ∀ u, u < pn P → e u ≤ 200000) : ∀ m t fuel, pn P - t = m → t ≤ pn P → m < fuel → FL_canBeHeld_144 fuel (nI (pn P)) (if sumN (fun u => e u - y (52 + u)) t = 0 then 1 else 0) (nI t) M = some (if sumN (fun u => e u - y (52 + u)) (pn P) = 0 then 1 else 0, M) := by
  have hn := h.n
  intro m
  induction m with
  | zero =>
    intro t fuel hm ht hf
    obtain ⟨k, rfl⟩ : ∃ k, fuel = k + 1 := ⟨fuel - 1, by omega⟩
    have e1 : t = pn P := by omega
    subst e1
    show FL_canBeHeld_144s _ _ _ _ _ = _
    unfold FL_canBeHeld_144s
    rw [le_nI (by omega) (by omega), if_pos (Nat.le_refl _), rZ_ite]
  | succ m ih =>
    intro t fuel hm ht hf
    obtain ⟨k, rfl⟩ : ∃ k, fuel = k + 1 := ⟨fuel - 1, by omega⟩
    have ht' : t < pn P := by omega
    have hi := ih (t + 1) k (by omega) (by omega) (by omega)
    have hl := heb t ht'
    obtain ⟨-, -, hdl⟩ := h.Ele ht'
    have hs : sumN (fun u => e u - y (52 + u)) (t + 1) = sumN (fun u => e u - y (52 + u)) t + (e t - y (52 + t)) := rfl
    show FL_canBeHeld_144s _ _ _ _ _ = _
    unfold FL_canBeHeld_144s FL_canBeHeld_175
    rw [le_nI (by omega) (by omega), if_neg (by omega), lt1_eq, nI_1]
    by_cases c : sumN (fun u => e u - y (52 + u)) t = 0
    · rw [if_pos c, if_neg (show ¬ (1 : Int32) = 0 by decide), ld_nI (by omega) (by decide), he t ht', r_due h ht', c1_eq, lt1_eq]
      by_cases d : e t - y (52 + t) = 0
      · rw [if_neg (fun q => by have := Int64.lt_iff_toInt_lt.mp ((lg_cmp_gt _ _).mp q); rw [l_nI (by omega), l_nI (by omega)] at this; omega)]
        rw [hs, c, d, if_pos rfl] at hi
        exact hi
      · rw [if_pos ((lg_cmp_gt _ _).mpr (Int64.lt_iff_toInt_lt.mpr (by rw [l_nI (by omega), l_nI (by omega)]; omega)))]
        rw [hs, if_neg (by omega)] at hi
        exact hi
    · rw [if_neg c, if_pos rfl]
      rw [hs, if_neg (by omega)] at hi
      exact hi
theorem l_held {M : Mem} {P : PD} {E o y : Nat → Nat} (h : StB (M 0) P E o y) {hd hh : Nat} (hhd : hd < pn P) (hhh : hh ≤ 5001) : ∃ (F : Nat → Nat) (M2 : Mem), Ends P (hdd P hd hh) F ∧ (∀ i, i ≠ 12 → M2 i = M i) ∧ FL_canBeHeld M (nI (pn P)) (nI hd) (nI hh) = some (if sumN (fun u => F u - y (52 + u)) (pn P) = 0 then 1 else 0, M2) := by
  have hn := h.n
  obtain ⟨F, hF⟩ := ends_exist h.tp (hdd P hd hh)
  have hFb : ∀ u, u < pn P → F u ≤ 200000 := fun u hu => by
    have := ends_bound (D := 5101) hn h.tp hF (fun v hv => by
      have := (h.pl.2.1 v hv).2.2.1
      show pd P v + (if v = hd then hh else 0) ≤ 5101
      split <;> omega) hu
    omega
  obtain ⟨M1, a1, a2⟩ := held_zero (M := M) hn (l2 := nI hd) (l3 := nI hh) (pn P) 0 fu M (by omega) (by omega) (fu_gt (by omega)) ⟨fun _ _ => rfl, fun u q => by omega⟩
  obtain ⟨M2, b1, b2⟩ := held_out h hhd hhh hF hFb (pn P + 1) 0 fu M1 (by omega) (by omega) (fu_gt (by omega)) a1
  refine ⟨F, M2, hF, b1.1, ?_⟩
  have h2 : StB (M2 0) P E o y := by rw [b1.1 0 (by decide)]; exact h
  have t1 := held_test h2 (e := F) (fun u hu => by rw [b1.2 u hu, rnd_end h.pl h.tp hF hu]) hFb (pn P) 0 fu (by omega) (by omega) (fu_gt (by omega))
  unfold FL_canBeHeld
  exact (a2.trans b2).trans t1
/-! slacks() -/
theorem bt_lset {f : Nat → Nat} {n : Nat} (hn : n ≤ 24) {i : Nat} (hi : i < 32) : bt (lset f n) i = decide (i < n ∧ f i ≠ 0) := by
  induction n with
  | zero => rw [show lset f 0 = 0 from rfl, b_0, decide_eq_false (by omega)]
  | succ n ih =>
    rw [show lset f (n + 1) = lset f n ||| (if f n = 0 then 0 else (1 : Int32) <<< (nI n &&& 31)) from rfl, b_or, ih (by omega)]
    by_cases c : f n = 0
    · rw [if_pos c, b_0, Bool.or_false]
      by_cases d : i < n ∧ f i ≠ 0
      · rw [decide_eq_true d, decide_eq_true ⟨by omega, d.2⟩]
      · rw [decide_eq_false d, decide_eq_false (fun q => d ⟨by
          rcases Nat.lt_or_ge i n with w | w
          · exact w
          · have : i = n := by omega
            subst this; exact absurd c q.2, q.2⟩)]
    · rw [if_neg c, bt_one (by omega) hi]
      by_cases d : i = n
      · subst d
        rw [decide_eq_true (p := i = i) rfl, Bool.or_true, decide_eq_true ⟨by omega, c⟩]
      · rw [decide_eq_false d, Bool.or_false]
        by_cases w : i < n ∧ f i ≠ 0
        · rw [decide_eq_true w, decide_eq_true ⟨by omega, w.2⟩]
        · rw [decide_eq_false w, decide_eq_false (fun q => w ⟨by omega, q.2⟩)]
theorem lset_0 {f : Nat → Nat} {n : Nat} (hn : n ≤ 24) : lset f n = 0 ↔ ∀ t, t < n → f t = 0 := by
  constructor
  · intro h t ht
    have := bt_lset (f := f) hn (i := t) (by omega)
    rw [h, b_0] at this
    exact Classical.byContradiction fun c => absurd this.symm (by rw [decide_eq_true ⟨ht, c⟩]; decide)
  · intro h
    exact b_ext fun i hi => by rw [bt_lset hn hi, b_0, decide_eq_false (fun q => q.2 (h i q.1))]
def F2 (M M' : Mem) : Prop := ∀ i, i ≠ 0 → i ≠ 12 → M' i = M i
theorem slacks_loop {P : PD} {E o y : Nat → Nat} {M0 : Mem} : ∀ m t fuel M, StB (M 0) P E o y → F2 M0 M → pn P - t = m → t ≤ pn P → m < fuel → ∃ M', FL_slacks_2 fuel (nI (pn P)) (nI t) M = some (1, M') ∧ StB (M' 0) P E o y ∧ F2 M0 M' := by
  intro m
  induction m with
  | zero =>
    intro t fuel M h hM hm ht hf
    have hn := h.n
    obtain ⟨k, rfl⟩ : ∃ k, fuel = k + 1 := ⟨fuel - 1, by omega⟩
    have e1 : t = pn P := by omega
    subst e1
    refine ⟨M, ?_, h, hM⟩
    show FL_slacks_2s _ _ _ _ = _
    unfold FL_slacks_2s
    rw [le_nI (by omega) (by omega), if_pos (Nat.le_refl _)]
  | succ m ih =>
    intro t fuel M h hM hm ht hf
    have hn := h.n
    obtain ⟨k, rfl⟩ : ∃ k, fuel = k + 1 := ⟨fuel - 1, by omega⟩
    have ht' : t < pn P := by omega
    show ∃ M', FL_slacks_2s _ _ _ _ = _ ∧ _
    unfold FL_slacks_2s FL_slacks_80 FL_slacks_76
    rw [le_nI (by omega) (by omega), if_neg (by omega)]
    have rd : ∀ (r : Int32) (B' : Blk), FX2_slackOf (M 0) (nI t) = some (r, B') → FX5_ofTask M (nI t) (8 : Int32) = some (r, jb M 0 B') := by
      intro r B' hr
      unfold FX5_ofTask FX2_tellOfTask
      rw [p_has_nI h.bp.1 hn ht', c1_eq]
      (repeat rw [if_neg (by decide)])
      rw [if_pos rfl, hr, c2_eq, c2_eq, lt1_eq]
    rcases p_slackOf h.1 h.DU ht' with ⟨⟨u, u1, u2⟩, s2⟩ | ⟨s1, G, L, hL, s2⟩
    · rw [rd _ _ s2, c2_eq, jb_self, n3 h, c1_eq, if_neg (fun q => by have := (lset_0 hn).mp q u u1; simp only [ydu] at u2; omega), if_pos rfl]
      unfold FL_slacks_81
      rw [if_neg (show ¬ (1 : Int32) = 0 by decide), lt1_eq, nI_1]
      exact ih (t + 1) k M h hM (by omega) (by omega) (by omega)
    · have h1 : StB (jb M 0 (bc (M 0) 20 G) 0) P E o y := by
        rw [jb_at]
        exact h.fr (fun q _ _ q3 => bc_ne q3)
      have hM1 : F2 M0 (jb M 0 (bc (M 0) 20 G)) := fun i i0 i12 => by rw [jb_ne i0]; exact hM i i0 i12
      rw [rd _ _ s2, c2_eq]
      generalize jb M 0 (bc (M 0) 20 G) = M1 at h1 hM1 ⊢
      obtain ⟨g, hg⟩ : ∃ g, min (L t - E t) 5000 = g := ⟨_, rfl⟩
      rw [hg, n3 h1, c1_eq, if_pos ((lset_0 hn).mpr (fun u hu => by have := s1 u hu; simp only [ydu] at this; omega)), if_neg (nneg (by omega))]
      obtain ⟨F, M2, f1, f2, f3⟩ := l_held h1 ht' (hh := g) (by omega)
      have q1 : sumN (fun u => F u - y (52 + u)) (pn P) = 0 := sumN_zero.mpr (fun u hu => by
        have := (held_iff h.pl h.tp h.en hL ht' f1).mpr (by omega) u hu
        simp only [ydu] at this; omega)
      rw [f3, c2_eq, if_pos q1, if_neg (show ¬ (1 : Int32) = 0 by decide)]
      have h2 : StB (M2 0) P E o y := by rw [f2 0 (by decide)]; exact h1
      have hM2 : F2 M0 M2 := fun i i0 i12 => by rw [f2 i i12]; exact hM1 i i0 i12
      unfold FL_slacks_81
      by_cases c : g = 5000
      · rw [if_pos (by rw [c]; rfl), if_neg (show ¬ (1 : Int32) = 0 by decide), lt1_eq, nI_1]
        exact ih (t + 1) k M2 h2 hM2 (by omega) (by omega) (by omega)
      · rw [show (5000 : Int32) = nI 5000 from rfl, eq_nI (by omega) (by decide), if_neg c, nI_1]
        obtain ⟨F', M3, g1, g2, g3⟩ := l_held h2 ht' (hh := g + 1) (by omega)
        have q2 : ¬ sumN (fun u => F' u - y (52 + u)) (pn P) = 0 := fun q => by
          have := (held_iff h.pl h.tp h.en hL ht' g1).mp (fun u hu => by
            have := sumN_zero.mp q u hu
            simp only [ydu]; omega)
          omega
        rw [g3, c2_eq, if_neg q2, if_pos rfl, if_neg (show ¬ (1 : Int32) = 0 by decide), lt1_eq, nI_1]
        exact ih (t + 1) k M3 (by rw [g2 0 (by decide)]; exact h2) (fun i i0 i12 => by rw [g2 i i12]; exact hM2 i i0 i12) (by omega) (by omega) (by omega)
theorem l_slacks {M : Mem} {P : PD} {E o y : Nat → Nat} (h : StB (M 0) P E o y) : ∃ M', FL_slacks M (nI (pn P)) = some (1, M') ∧ StB (M' 0) P E o y ∧ F2 M M' := by
  have hn := h.n
  unfold FL_slacks
  exact slacks_loop (pn P) 0 fu M h (fun _ _ _ => rfl) (by omega) (by omega) (fu_gt (by omega))
