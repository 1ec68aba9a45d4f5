/-! the model's search for slack; ofTask -/
theorem q_held {Z : Blk} {P : PD} {o du : Nat → Nat} (hP : Pln P) (hz : ZPl (Z 1) P) (ho : Topo P o) (hi : Idle Z) (hD : DU (Z 1) (pn P) du) {t h : Nat} (ht : t < pn P) (hh : h ≤ 5000) : ∃ (Eh : Nat → Nat) (Z' : Blk), Ends P (fun u => pd P u + (if u = t then h else 0)) Eh ∧ FX6_canBeHeld Z (nI t) (nI h) = some (if sumN (fun u => Eh u - du u) (pn P) = 0 then 1 else 0, Z') ∧ ∀ q, q ≠ 7 → q ≠ 8 → Z' q = Z q := by
  have hn := hP.1
  obtain ⟨Eh, hEh⟩ := ends_exist ho (fun u => pd P u + (if u = t then h else 0))
  obtain ⟨Z3, hZ3⟩ : ∃ Z3, bs (bs Z 0 11 (nI t)) 0 12 (nI h) = Z3 := ⟨_, rfl⟩
  have z31 : Z3 1 = Z 1 := by rw [← hZ3, bs_o (by omega), bs_o (by omega)]
  have hheld : Held Z3 P (fun u => pd P u + (if u = t then h else 0)) := by
    intro u hu
    refine ⟨if u = t then h else 0, ?_, rfl, by split <;> omega⟩
    have e11 : Z3 0 11 = nI t := by rw [← hZ3, bs_kn (by omega), bs_kk]
    have e12 : Z3 0 12 = nI h := by rw [← hZ3, bs_kk]
    rw [e11, e12, eq_nI (by omega) (by omega)]
    by_cases c : u = t
    · rw [if_pos c, if_pos c]
    · rw [if_neg c, if_neg c]; rfl
  obtain ⟨Z7, r1, r2, r3⟩ := reck hP (by rw [z31]; exact hz) hheld ho hEh
  have z71 : Z7 1 = Z 1 := by rw [r2 1 (by omega) (by omega), z31]
  have hb : ∀ u, u < pn P → Eh u < 1000000 := by
    intro u hu
    have := ends_bound (D := 5100) hn ho hEh (fun v hv => by
      show pd P v + (if v = t then h else 0) ≤ 5100
      have := (hP.2.1 v hv).2.2.1
      split <;> omega) hu
    omega
  have hl := q_lateTogether (Z := Z7) (E := Eh) (du := du) hn (by rw [z71]; exact hz.1) (fun t ht => (r3 t ht).2) hb (by rw [z71]; exact hD)
  have hsb : sumN (fun t => Eh t - du t) (pn P) < 2 ^ 31 := by
    have : ∀ n, n ≤ pn P → sumN (fun t => Eh t - du t) n ≤ 1000000 * n := by
      intro n
      induction n with
      | zero => intro _; exact Nat.le_refl _
      | succ n ih =>
        intro hq
        have a1 := ih (by omega)
        have a2 := hb n (by omega)
        rw [sumN]
        show _ + (Eh n - du n) ≤ _
        omega
    have := this _ (Nat.le_refl _)
    omega
  refine ⟨Eh, bs (bs Z7 0 11 (-6)) 0 12 0, hEh, ?_, fun q h7 h8 => ?_⟩
  · unfold FX6_canBeHeld FX6_canBeHeld_27
    rw [lt1_eq, lt1_eq, hZ3, r1, c2_eq, hl, c1_eq, if_nI0 hsb, lt1_eq, lt1_eq, rZ_1]
    split <;> rfl
  · by_cases c : q = 0
    · subst c
      funext j
      have e7 : Z7 0 = Z3 0 := r2 0 (by omega) (by omega)
      rw [b1_eq, b1_eq, upd_eq]
      by_cases c12 : j = 12
      · rw [if_pos c12, c12]; exact hi.2.symm
      · rw [if_neg c12, upd_eq]
        by_cases c11 : j = 11
        · rw [if_pos c11, c11]; exact hi.1.symm
        · rw [if_neg c11, e7, ← hZ3, bs_kn c12, bs_kn c11]
    · rw [bs_o c, bs_o c, r2 q h7 h8, ← hZ3, bs_o c, bs_o c]
theorem Idle.cg {Z Z' : Blk} (h : Idle Z) (e : Z' 0 = Z 0) : Idle Z' := by
  unfold Idle at h ⊢
  rw [e]; exact h
theorem q_slack {B Z : Blk} {P : PD} {E o du : Nat → Nat} (h : RelP B (Z 1) P E o) (hi : Idle Z) (hd : DU (Z 1) (pn P) du) {t : Nat} (ht : t < pn P) : ∃ (r : Int32) (B' Z' : Blk), FX2_slackOf B (nI t) = some (r, B') ∧ FX6_slack Z (nI t) = some (r, Z') ∧ RelP B' (Z 1) P E o ∧ ∀ q, q ≠ 7 → q ≠ 8 → Z' q = Z q := by
  have hn := h.n
  have hP := h.1
  have ho := h.2.2.2.2.1
  have hE := h.2.2.2.1
  obtain ⟨E0, Z1, e1, e2, e3⟩ := q_held hP h.2.1 ho hi hd ht (h := 0) (by omega)
  have eE : ∀ u, u < pn P → E u = E0 u := ends_uniq ho hE (fun u hu => by
    have := e1 u hu
    show E0 u = _ + pd P u
    have this : E0 u = max (e0 E0 (fr P u)) (e0 E0 (pa P u)) + (pd P u + if u = t then 0 else 0) := this
    rw [this]
    split <;> rfl)
  have z0 : Z1 0 = Z 0 := e3 0 (by omega) (by omega)
  have z1 : Z1 1 = Z 1 := e3 1 (by omega) (by omega)
  rcases p_slackOf h hd ht with ⟨⟨u, hu, hlt⟩, s1⟩ | ⟨hle, F, L, hL, s1⟩
  · refine ⟨0, B, Z1, s1, ?_, h, e3⟩
    unfold FX6_slack
    rw [k0, e2, c2_eq, if_neg (c := sumN (fun u => E0 u - du u) (pn P) = 0) (fun q => by
      have := sumN_zero.mp q u hu
      have := eE u hu
      omega), ← k0, if_pos rfl]
  · have G := L t - E t
    have hz : sumN (fun u => E0 u - du u) (pn P) = 0 := sumN_zero.mpr (fun u hu => by
      have := hle u hu
      have := eE u hu
      show E0 u - du u = 0
      omega)
    have hl := (hL.1 t ht)
    have hdl := hd.le hn ht
    -- the search
    have loop : ∀ m low high fuel (Z2 : Blk), high - low = m → low ≤ min (L t - E t) 5000 → min (L t - E t) 5000 ≤ high → high ≤ 5000 → m < fuel → (∀ q, q ≠ 7 → q ≠ 8 → Z2 q = Z q) → ∃ Z' : Blk, FX6_slack_17 fuel (nI t) (nI low) (nI high) Z2 = some (nI (min (L t - E t) 5000), Z') ∧ ∀ q, q ≠ 7 → q ≠ 8 → Z' q = Z q := by
      intro m
      induction m using Nat.strongRecOn with
      | ind m ih =>
        intro low high fuel Z2 hm h1 h2 h3 hf hZ
        obtain ⟨k, rfl⟩ : ∃ k, fuel = k + 1 := ⟨fuel - 1, by omega⟩
        show ∃ Z' : Blk, FX6_slack_17s (FX6_slack_17 k) _ _ _ _ = _ ∧ _
        unfold FX6_slack_17s
        rw [le_nI (by omega) (by omega)]
        by_cases c : high ≤ low
        · rw [if_pos c]
          exact ⟨Z2, by rw [show low = min (L t - E t) 5000 by omega], hZ⟩
        · rw [if_neg c, nI_add, nI_1, show (2 : Int32) = nI 2 from rfl, pk_div (by omega) (by omega) (by omega), lt1_eq]
          obtain ⟨mi, hmi⟩ : ∃ mi, (low + high + 1) / 2 = mi := ⟨_, rfl⟩
          rw [hmi]
          have m1 : low < mi ∧ mi ≤ high := by omega
          obtain ⟨Eh, Z3, f1, f2, f3⟩ := q_held (Z := Z2) hP (by rw [hZ 1 (by omega) (by omega)]; exact h.2.1) ho (hi.cg (hZ 0 (by omega) (by omega))) (by rw [hZ 1 (by omega) (by omega)]; exact hd) ht (h := mi) (by omega)
          have hZ3 : ∀ q, q ≠ 7 → q ≠ 8 → Z3 q = Z q := fun q h7 h8 => by rw [f3 q h7 h8, hZ q h7 h8]
          have hiff : sumN (fun u => Eh u - du u) (pn P) = 0 ↔ mi ≤ L t - E t := by
            rw [← held_iff hP ho hE hL ht f1, sumN_zero]
            constructor
            · intro q u hu
              have := q u hu
              omega
            · intro q u hu
              have := q u hu
              show Eh u - du u = 0
              omega
          rw [f2, c2_eq]
          unfold FX6_slack_51
          by_cases c2 : mi ≤ L t - E t
          · rw [if_pos (hiff.mpr c2), if_neg (show ¬ (1 : Int32) = 0 by decide), if_neg (show ¬ (1 : Int32) = 0 by decide)]
            exact ih (high - mi) (by omega) mi high k Z3 rfl (by omega) h2 h3 (by omega) hZ3
          · rw [if_neg (fun q => c2 (hiff.mp q)), if_pos rfl, if_pos rfl, nI_sub1 (by omega), lt1_eq]
            exact ih (mi - 1 - low) (by omega) low (mi - 1) k Z3 rfl h1 (by omega) (by omega) (by omega) hZ3
    obtain ⟨Z', g1, g2⟩ := loop 5000 0 5000 fu Z1 (by omega) (by omega) (by omega) (by omega) (fu_gt (by omega)) e3
    refine ⟨_, _, Z', s1, ?_, h.o20 _, g2⟩
    unfold FX6_slack
    rw [k0, e2, c2_eq, if_pos hz, ← k0, if_neg (show ¬ (1 : Int32) = 0 by decide)]
    exact g1
/-- what a read leaves -/
def RdGoal (B Z : Blk) (x y : Option (Int32 × Blk)) : Prop := ∃ (r : Int32) (B' Z' : Blk), x = some (r, B') ∧ y = some (r, Z') ∧ Rel B' (Z' 1) ∧ Fz Z Z'
theorem Rd_same {B Z Z' : Blk} (h : Rel B (Z 1)) (hz : ∀ q, q ≠ 7 → q ≠ 8 → Z' q = Z q) {r : Int32} {x y : Option (Int32 × Blk)} (hx : x = some (r, B)) (hy : y = some (r, Z')) : RdGoal B Z x y :=
  ⟨r, B, Z', hx, hy, by rw [hz 1 (by omega) (by omega)]; exact h, Fz.of78 hz⟩
theorem r_ofTask {B Z : Blk} (h : Rel B (Z 1)) (hi : Idle Z) (a b : Int32) : RdGoal B Z (FX2_tellOfTask B a b) (FX6_ofTask Z a b) := by
  have h0 := h
  obtain ⟨P, E, o, hR⟩ := h
  have hn := hR.n
  have hP := hR.1
  have hB := hR.2.2.1
  have hz := hR.2.1
  unfold FX2_tellOfTask FX6_ofTask
  by_cases d0 : inT (pn P) a
  · rw [(p_has hB.1 a).1 d0, (q_isTask hz.1 a).1 d0, c1_eq, c1_eq, if_neg (show ¬ (1 : Int32) = 0 by decide), if_neg (show ¬ (1 : Int32) = 0 by decide), q_in, c1_eq, ite_bool]
    obtain ⟨t, ht, rfl⟩ := inT_of d0 (by omega)
    obtain ⟨du, hD⟩ := hR.du
    obtain ⟨k, hk1, hk2, hk3⟩ := hR.k
    have hck := hR.2.2.2.2.2.2.2.2.2.2.2.2
    have hcc : ∀ c, c < k → B 12 c = Z 1 (196 + c) ∧ B 13 c = Z 1 (236 + c) ∧ B 14 c = Z 1 (276 + c) := by
      obtain ⟨k', w1, w2, w3, w4⟩ := hck
      have : k' = k := (nI_eq (by omega) (by omega)).mp (by rw [← w3, hk3])
      subst this
      intro c hc
      obtain ⟨⟨y1, y2, y3, y4⟩, -⟩ := w4 c hc
      exact ⟨y1, y2, y3⟩
    obtain ⟨Z9, r1, r2, r3⟩ := reck hP hz (held_none hP hi.1) hR.2.2.2.2.1 hR.2.2.2.1
    have z1 : Z9 1 = Z 1 := r2 1 (by omega) (by omega)
    have hE2 : ∀ t, t < pn P → E t < 1000000 := fun t ht => by have := hR.E_le ht; omega
    obtain ⟨x1, x2, x3⟩ := hB.2.1 t ht
    obtain ⟨y1, y2, y3, y4⟩ := hz.2 t ht
    obtain ⟨g1, g2, g3, g4⟩ := hR.2.2.2.2.2.2.2.2.1 t ht
    have hEt := hR.E_le ht
    have hgt : pd P t ≤ E t := by have := hR.2.2.2.1 t ht; omega
    have same := fun r x y hx hy => Rd_same (B := B) (Z := Z) (Z' := Z9) h0 r2 (r := r) (x := x) (y := y) hx hy
    by_cases cr : 0 ≤ b ∧ b ≤ 13
    · rw [if_pos cr, r1, c2_eq]
      by_cases c : b = 0
      · rw [if_pos c, if_pos c, ld_nI (by omega) (by decide), k4, nI_add, ld_nI (by omega) (by decide), x1, z1, y1]
        exact same _ _ _ rfl rfl
      · rw [if_neg c, if_neg c]
        by_cases c : b = 1
        · rw [if_pos c, if_pos c, ld_nI (by omega) (by decide), k28, nI_add, ld_nI (by omega) (by decide), x2, z1, y2]
          exact same _ _ _ rfl rfl
        · rw [if_neg c, if_neg c]
          by_cases c : b = 2
          · rw [if_pos c, if_pos c, ld_nI (by omega) (by decide), k100, nI_add, ld_nI (by omega) (by decide), x3, z1, y4]
            exact same _ _ _ rfl rfl
          · rw [if_neg c, if_neg c]
            by_cases c : b = 3
            · rw [if_pos c, if_pos c, p_placeOf hP hB ht, c1_eq, k172, nI_add, ld_nI (by omega) (by decide), z1, y3]
              exact same _ _ _ rfl rfl
            · rw [if_neg c, if_neg c]
              by_cases c : b = 4
              · rw [if_pos c, if_pos c, p_startOf (by omega), c1_eq, ld_nI (by omega) (by decide), (r3 t ht).1, hR.2.2.2.2.2.1 t ht, x2, nI_sub hgt]
                exact same _ _ _ rfl rfl
              · rw [if_neg c, if_neg c]
                by_cases c : b = 5
                · rw [if_pos c, if_pos c, p_endOf_x hB.1 hn ht, c1_eq, ld_nI (by omega) (by decide), (r3 t ht).2, hR.2.2.2.2.2.1 t ht]
                  exact same _ _ _ rfl rfl
                · rw [if_neg c, if_neg c]
                  by_cases c : b = 6
                  · rw [if_pos c, if_pos c, p_lateOf hR hD ht, c1_eq, q_late hn (fun t ht => (r3 t ht).2) hE2 (by rw [z1]; exact hD) ht, c1_eq]
                    exact same _ _ _ rfl rfl
                  · rw [if_neg c, if_neg c]
                    by_cases c : b = 7
                    · rw [if_pos c, if_pos c, p_spareOf hR hD ht, c1_eq, q_spared hn (fun t ht => (r3 t ht).2) hE2 (by rw [z1]; exact hD) ht, c1_eq]
                      exact same _ _ _ rfl rfl
                    · rw [if_neg c, if_neg c]
                      by_cases c : b = 8
                      · rw [if_pos c, if_pos c]
                        obtain ⟨r, B', Z', s1, s2, s3, s4⟩ := q_slack (B := B) (Z := Z9) (by rw [z1]; exact hR) (hi.cg (r2 0 (by omega) (by omega))) (by rw [z1]; exact hD) ht
                        rw [s1, s2, c2_eq, c2_eq]
                        have s5 : ∀ q, q ≠ 7 → q ≠ 8 → Z' q = Z q := fun q h7 h8 => by rw [s4 q h7 h8, r2 q h7 h8]
                        exact ⟨r, B', Z', rfl, rfl, ⟨P, E, o, by rw [s5 1 (by omega) (by omega), ← z1]; exact s3⟩, Fz.of78 s5⟩
                      · rw [if_neg c, if_neg c]
                        by_cases c : b = 9
                        · rw [if_pos c, if_pos c, ld_nI (by omega) (by decide), k124, nI_add, ld_nI (by omega) (by decide), g3, z1]
                          exact same _ _ _ rfl rfl
                        · rw [if_neg c, if_neg c]
                          by_cases c : b = 10
                          · rw [if_pos c, if_pos c, ld_nI (by omega) (by decide), k148, nI_add, ld_nI (by omega) (by decide), g4, z1]
                            exact same _ _ _ rfl rfl
                          · rw [if_neg c, if_neg c]
                            by_cases c : b = 11
                            · rw [if_pos c, if_pos c, p_soldBy (z := Z 1) hk2 hk1 (fun c hc => ⟨(hcc c hc).1, (hcc c hc).2.2⟩), c1_eq, k196, q_hoursBy (Or.inl rfl) (by rw [z1]; exact hk3) hk1, c1_eq, z1]
                              exact same _ _ _ rfl rfl
                            · rw [if_neg c, if_neg c]
                              by_cases c : b = 12
                              · rw [if_pos c, if_pos c, p_boughtBy (z := Z 1) hk2 hk1 (fun c hc => ⟨(hcc c hc).2.1, (hcc c hc).2.2⟩), c1_eq, k236, q_hoursBy (Or.inr rfl) (by rw [z1]; exact hk3) hk1, c1_eq, z1]
                                exact same _ _ _ rfl rfl
                              · rw [if_neg c, if_neg c]
                                have e13 : b = 13 := by
                                  obtain ⟨q, -, hq, rfl⟩ := nI_btw (a := 0) (b := 13) (by decide) cr.1 cr.2 (by decide)
                                  have : q ≠ 0 ∧ q ≠ 1 ∧ q ≠ 2 ∧ q ≠ 3 ∧ q ≠ 4 ∧ q ≠ 5 ∧ q ≠ 6 ∧ q ≠ 7 ∧ q ≠ 8 ∧ q ≠ 9 ∧ q ≠ 10 ∧ q ≠ 11 ∧ q ≠ 12 := by
                                    refine ⟨?_, ?_, ?_, ?_, ?_, ?_, ?_, ?_, ?_, ?_, ?_, ?_, ?_⟩ <;> (intro e; subst e; contradiction)
                                  have : q = 13 := by omega
                                  rw [this]; rfl
                                obtain ⟨R1, p1, p2⟩ := p_followersOf hP hB ht
                                obtain ⟨R2, q1, q2⟩ := q_behind (Z := Z9) hP (by rw [z1]; exact hz) ht
                                rw [if_pos e13, p1, c1_eq, q1, c1_eq, show R2 = R1 from b_ext (fun i hi => by rw [p2 i hi, q2 i hi])]
                                exact same _ _ _ rfl rfl
    · rw [if_neg cr]
      have hne : ∀ q, q ≤ 13 → ¬ b = nI q := fun q hq e => cr (by rw [e]; exact ⟨nI_pos' (by omega), (nI_leI (by omega) (by decide)).mpr hq⟩)
      rw [if_neg (show ¬ b = 0 from hne 0 (by omega)), if_neg (show ¬ b = 1 from hne 1 (by omega)), if_neg (show ¬ b = 2 from hne 2 (by omega)), if_neg (show ¬ b = 3 from hne 3 (by omega)), if_neg (show ¬ b = 4 from hne 4 (by omega)), if_neg (show ¬ b = 5 from hne 5 (by omega)), if_neg (show ¬ b = 6 from hne 6 (by omega)), if_neg (show ¬ b = 7 from hne 7 (by omega)), if_neg (show ¬ b = 8 from hne 8 (by omega)), if_neg (show ¬ b = 9 from hne 9 (by omega)), if_neg (show ¬ b = 10 from hne 10 (by omega)), if_neg (show ¬ b = 11 from hne 11 (by omega)), if_neg (show ¬ b = 12 from hne 12 (by omega)), if_neg (show ¬ b = 13 from hne 13 (by omega))]
      exact ⟨-2, B, Z, rfl, rfl, h0, Fz.refl Z⟩
  · rw [(p_has hB.1 a).2 d0, (q_isTask hz.1 a).2 d0]
    exact ⟨-1, B, Z, rfl, rfl, h0, Fz.refl Z⟩
