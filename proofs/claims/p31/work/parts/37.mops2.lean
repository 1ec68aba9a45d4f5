/-! offer, give, duration -/
theorem bs_kk {B : Blk} {o k : Nat} {v : Int32} : bs B o k v o k = v := by rw [bs_r, if_pos ⟨rfl, rfl⟩]
theorem bs_kn {B : Blk} {o k k' : Nat} {v : Int32} (h : k' ≠ k) : bs B o k v o k' = B o k' := by rw [bs_r, if_neg (fun q => h q.2)]
theorem if_nI0 {k : Nat} {α : Type} {x y : α} (hk : k < 2 ^ 31) : (if nI k = (0 : Int32) then x else y) = if k = 0 then x else y := by
  rw [k0, eq_nI hk (by decide)]
theorem if_nIle0 {k : Nat} {α : Type} {x y : α} (hk : k < 2 ^ 31) : (if nI k ≤ (0 : Int32) then x else y) = if k = 0 then x else y := by
  rw [k0, le_nI hk (by decide)]
  by_cases c : k = 0
  · rw [if_pos c, if_pos (by omega)]
  · rw [if_neg c, if_neg (by omega)]
theorem upd_eq {f : Nat → Int32} {k j : Nat} {v : Int32} : upd f k v j = if j = k then v else f j := rfl
theorem offer_rel {B : Blk} {z : Nat → Int32} {P : PD} {E o : Nat → Nat} (h : RelP B z P E o) {t k p : Nat} (ht : t < pn P) (hk : k ≤ 500) (hp : p ≤ 1000) : RelP (bs (bs B 18 t (nI k)) 19 t (nI p)) (upd (upd z (124 + t) (nI k)) (148 + t) (nI p)) P E o := by
  have hn := h.n
  refine RelP_rest h (fun q hq => by rw [bs_o (by omega), bs_o (by omega)]) (fun q hq => by rw [upd_ne (by omega), upd_ne (by omega)]) ?_
  have hr := h.2.2.2.2.2.2.2
  refine Rest_tasks hr (fun q hq => by rw [bs_o (by omega), bs_o (by omega)]) (fun q hq => by rw [upd_ne (by omega), upd_ne (by omega)]) (fun u hu => ?_) ?_ (fun u hu => ?_) (fun u hu => ?_)
  · obtain ⟨g1, g2, g3, g4⟩ := hr.2.1 u hu
    refine ⟨?_, ?_, ?_, ?_⟩
    · rw [bs_o (by omega), bs_o (by omega), upd_ne (by omega), upd_ne (by omega)]; exact g1
    · rw [bs_o (by omega), bs_o (by omega), upd_ne (by omega), upd_ne (by omega)]; exact g2
    · rw [bs_o (by omega), bs_r, upd_ne (by omega), upd_eq]
      by_cases c : u = t
      · rw [if_pos ⟨rfl, c⟩, if_pos (by omega)]
      · rw [if_neg (fun q => c q.2), if_neg (by omega)]; exact g3
    · rw [bs_r, upd_eq]
      by_cases c : u = t
      · rw [if_pos ⟨rfl, c⟩, if_pos (by omega)]
      · rw [if_neg (fun q => c q.2), if_neg (by omega), bs_o (by omega), upd_ne (by omega)]; exact g4
  · obtain ⟨du, d1, d2⟩ := hr.2.2.1
    exact ⟨du, fun u hu => by rw [upd_ne (by omega), upd_ne (by omega)]; exact d1 u hu, d2⟩
  · rw [upd_ne (by omega), upd_eq]
    by_cases c : u = t
    · rw [if_pos (by omega)]; exact ⟨k, hk, rfl⟩
    · rw [if_neg (by omega)]; exact hr.2.2.2.1 u hu
  · rw [upd_eq]
    by_cases c : u = t
    · rw [if_pos (by omega)]; exact ⟨p, hp, rfl⟩
    · rw [if_neg (by omega), upd_ne (by omega)]; exact hr.2.2.2.2.1 u hu
theorem p_setOffer {B : Blk} {t k p : Nat} (ht : t < 24) (hk : k ≤ 500) : FX2_setOffer B (nI t) (nI k) (nI p) = some (bs (bs B 18 t (nI k)) 19 t (nI (if k = 0 then 0 else p))) := by
  unfold FX2_setOffer
  rw [stb_nI ht (by decide), if_nIle0 (by omega)]
  unfold FX2_setOffer_21
  rw [stb_nI ht (by decide), stb_nI ht (by decide)]
  by_cases c : k = 0
  · rw [if_pos c, if_pos c]; rfl
  · rw [if_neg c, if_neg c]
theorem m_offer (a b c : Int32) : MOp (fun B => FX2_makeOffer B a b c) (fun Z => FX6_offer Z a b c) := by
  intro B Z h hi hq
  show ∃ (r : Int32) (B' Z' : Blk), FX2_makeOffer B a b c = some (r, B') ∧ FX6_offer Z a b c = some (r, Z') ∧ _
  have h0 := h
  obtain ⟨P, E, o, hRP⟩ := h
  have hn := hRP.n
  have hB := hRP.2.2.1.1
  have hz := hRP.2.1.1
  unfold FX2_makeOffer FX6_offer
  by_cases d0 : inT (pn P) a
  · rw [(p_has hB a).1 d0, (q_isTask hz a).1 d0, c1_eq, c1_eq, if_neg (show ¬ (1 : Int32) = 0 by decide), if_neg (show ¬ (1 : Int32) = 0 by decide), cin1, cin2, q_in, c1_eq, ite_bool, q_in, c1_eq, ite_bool]
    by_cases d1 : 0 ≤ b ∧ b ≤ 500
    · rw [if_pos d1, if_pos d1]
      by_cases d2 : 0 ≤ c ∧ c ≤ 1000
      · rw [if_pos d2, if_pos d2]
        obtain ⟨t, ht, rfl⟩ := inT_of d0 (by omega)
        obtain ⟨k, -, hk, rfl⟩ := nI_btw (a := 0) (b := 500) (by decide) d1.1 d1.2 (by decide)
        obtain ⟨p, -, hp, rfl⟩ := nI_btw (a := 0) (b := 1000) (by decide) d2.1 d2.2 (by decide)
        obtain ⟨ZR, hR, hp2, hk2⟩ := q_record hq
        have hZ1 : ZR 1 = Z 1 := hk2 1 (by decide) (by decide)
        obtain ⟨g1, g2, g3, g4⟩ := hRP.2.2.2.2.2.2.2.2.1 t ht
        obtain ⟨w, hw, hw2⟩ := hRP.2.2.2.2.2.2.2.2.2.2.1 t ht
        refine MOp_ok h0 hp2 hk2 (Z' := bs (bs ZR 1 (124 + t) (nI k)) 1 (148 + t) (nI (if k = 0 then 0 else p))) ((Fz.bs (Or.inl rfl)).trans (Fz.bs (Or.inl rfl))) (r := Z 1 (124 + t)) (B' := bs (bs B 18 t (nI k)) 19 t (nI (if k = 0 then 0 else p))) (by rw [hw2]; exact nneg (by omega)) ⟨P, E, o, ?_⟩ ?_ ?_
        · rw [b1_eq, b1_eq, hZ1]
          exact offer_rel hRP ht hk (by split <;> omega)
        · rw [ld_nI (by omega) (by decide), p_setOffer (by omega) hk, c1_eq, g3]
        · rw [hR, c1_eq, k124, nI_add, ld_nI (by omega) (by decide), stb_nI (by omega) (by decide), if_nI0 (by omega), hZ1, k148, nI_add]
          unfold FX6_offer_78
          rw [stb_nI (by omega) (by decide), stb_nI (by omega) (by decide)]
          by_cases c : k = 0
          · rw [if_pos c, if_pos c]; rfl
          · rw [if_neg c, if_neg c]
      · rw [if_neg d2, if_neg d2]
        exact MOp_err h0 (by decide) rfl rfl
    · rw [if_neg d1, if_neg d1]
      exact MOp_err h0 (by decide) rfl rfl
  · rw [(p_has hB a).2 d0, (q_isTask hz a).2 d0]
    exact MOp_err h0 (by decide) rfl rfl
/-- two tasks' money changes -/
theorem money_rel {B : Blk} {z : Nat → Int32} {P : PD} {E o : Nat → Nat} (h : RelP B z P E o) {t : Nat} {v : Int32} (ht : t < pn P) : RelP (bs B 17 t v) (upd z (76 + t) v) P E o := by
  have hn := h.n
  refine RelP_rest h (fun q hq => by rw [bs_o (by omega)]) (fun q hq => by rw [upd_ne (by omega)]) ?_
  have hr := h.2.2.2.2.2.2.2
  refine Rest_tasks hr (fun q hq => by rw [bs_o (by omega)]) (fun q hq => by rw [upd_ne (by omega)]) (fun u hu => ?_) ?_ (fun u hu => ?_) (fun u hu => ?_)
  · obtain ⟨g1, g2, g3, g4⟩ := hr.2.1 u hu
    refine ⟨?_, ?_, ?_, ?_⟩
    · rw [bs_o (by omega), upd_ne (by omega)]; exact g1
    · rw [bs_r, upd_eq]
      by_cases c : u = t
      · rw [if_pos ⟨rfl, c⟩, if_pos (by omega)]
      · rw [if_neg (fun q => c q.2), if_neg (by omega)]; exact g2
    · rw [bs_o (by omega), upd_ne (by omega)]; exact g3
    · rw [bs_o (by omega), upd_ne (by omega)]; exact g4
  · obtain ⟨du, d1, d2⟩ := hr.2.2.1
    exact ⟨du, fun u hu => by rw [upd_ne (by omega)]; exact d1 u hu, d2⟩
  · rw [upd_ne (by omega)]; exact hr.2.2.2.1 u hu
  · rw [upd_ne (by omega)]; exact hr.2.2.2.2.1 u hu
/-- an order is there where ends are -/
theorem ends_rank {P : PD} {d E : Nat → Nat} (hP : Pln P) (hd : ∀ t, t < pn P → 1 ≤ d t) (h : Ends P d E) : Rank P E := by
  intro t ht
  have h1 := h t ht
  have h2 := hd t ht
  constructor
  · intro c
    have : e0 E (fr P t) = E (fr P t) := if_pos c
    omega
  · intro c
    have : e0 E (pa P t) = E (pa P t) := if_pos c
    omega
theorem sched_ok {B : Blk} {z : Nat → Int32} {P : PD} {rk : Nat → Nat} (hP : Pln P) (hB : BPl B P) (hr : Rank P rk) (hz : ZPl z P) (hR : Rest B z (pn P)) : ∃ B' : Blk, FX4_schedule B = some (1, B') ∧ (∀ o, o ≠ 6 → o ≠ 7 → o ≠ 10 → B' o = B o) ∧ ∃ E od : Nat → Nat, RelP B' z P E od := by
  obtain ⟨B', hf, h⟩ := p_schedule hP hB
  rcases h with ⟨h1, E, od, h2, h3, h4, h5⟩ | ⟨-, h2⟩
  · refine ⟨B', h1, hf, E, od, hP, hz, BPl_frame hf hB, h2, h3, h4, h5, ?_⟩
    exact Rest_frame hR (by rw [hf 0 (by omega) (by omega) (by omega)]) (by rw [hf 0 (by omega) (by omega) (by omega)]) (by rw [hf 2 (by omega) (by omega) (by omega)]) (fun o h1 h2 => hf o (by omega) (by omega) (by omega)) rfl rfl rfl (fun _ _ => rfl) hP.1
  · exact absurd hr (h2 rk)
theorem dur_pln {P : PD} (hP : Pln P) {t d : Nat} (hd0 : 1 ≤ d) (hd : d ≤ 100) : Pln (pn P, pm P, pp P, pa P, u1 (pd P) t d) := by
  obtain ⟨h1, h2, h3, h4⟩ := hP
  refine ⟨h1, fun u hu => ?_, h3, h4⟩
  obtain ⟨g1, g2, g3, g4⟩ := h2 u hu
  refine ⟨g1, ?_, ?_, g4⟩
  · show 1 ≤ u1 (pd P) t d u
    unfold u1
    split <;> omega
  · show u1 (pd P) t d u ≤ 100
    unfold u1
    split <;> omega
theorem dur_z {z : Nat → Int32} {P : PD} (hP : Pln P) (h : ZPl z P) {t d : Nat} (ht : t < pn P) : ZPl (upd z (28 + t) (nI d)) (pn P, pm P, pp P, pa P, u1 (pd P) t d) := by
  have hn := hP.1
  refine ⟨by rw [upd_ne (by omega)]; exact h.1, fun u hu => ?_⟩
  have hu' : u < pn P := hu
  obtain ⟨g1, g2, g3, g4⟩ := h.2 u hu
  refine ⟨by rw [upd_ne (by omega)]; exact g1, ?_, by rw [upd_ne (by omega)]; exact g3, by rw [upd_ne (by omega)]; exact g4⟩
  show upd z (28 + t) (nI d) (28 + u) = nI (u1 (pd P) t d u)
  rw [upd_eq]
  unfold u1
  by_cases c : u = t
  · rw [if_pos c, if_pos (by omega)]
  · rw [if_neg c, if_neg (by omega)]; exact g2
theorem dur_b {B : Blk} {P : PD} (h : BPl B P) {t d : Nat} : BPl (bs B 4 t (nI d)) (pn P, pm P, pp P, pa P, u1 (pd P) t d) := by
  obtain ⟨h1, h2, h3, h4⟩ := h
  refine ⟨by rw [bs_o (by omega)]; exact h1, fun u hu => ?_, fun m hm => by rw [bs_o (by omega)]; exact h3 m hm, fun u hu => by rw [bs_o (by omega)]; exact h4 u hu⟩
  obtain ⟨g1, g2, g3⟩ := h2 u hu
  refine ⟨by rw [bs_o (by omega)]; exact g1, ?_, by rw [bs_o (by omega)]; exact g3⟩
  show bs B 4 t (nI d) 4 u = nI (u1 (pd P) t d u)
  rw [bs_r]
  unfold u1
  by_cases c : u = t
  · rw [if_pos c, if_pos ⟨rfl, c⟩]
  · rw [if_neg c, if_neg (fun q => c q.2)]; exact g2
theorem m_duration (a b : Int32) : MOp (fun B => FX2_changeDuration B a b) (fun Z => FX6_duration Z a b) := by
  intro B Z h hi hq
  show ∃ (r : Int32) (B' Z' : Blk), FX2_changeDuration B a b = some (r, B') ∧ FX6_duration Z a b = some (r, Z') ∧ _
  have h0 := h
  obtain ⟨P, E, o, hRP⟩ := h
  have hn := hRP.n
  have hB := hRP.2.2.1.1
  have hz := hRP.2.1.1
  unfold FX2_changeDuration FX6_duration
  by_cases d0 : inT (pn P) a
  · rw [(p_has hB a).1 d0, (q_isTask hz a).1 d0, c1_eq, c1_eq, if_neg (show ¬ (1 : Int32) = 0 by decide), if_neg (show ¬ (1 : Int32) = 0 by decide), cin2, q_in, c1_eq, ite_bool]
    by_cases d1 : 1 ≤ b ∧ b ≤ 100
    · rw [if_pos d1, if_pos d1]
      obtain ⟨t, ht, rfl⟩ := inT_of d0 (by omega)
      obtain ⟨k, hk0, hk, rfl⟩ := nI_btw (a := 1) (b := 100) (by decide) d1.1 d1.2 (by decide)
      obtain ⟨ZR, hR, hp2, hk2⟩ := q_record hq
      have hZ1 : ZR 1 = Z 1 := hk2 1 (by decide) (by decide)
      obtain ⟨-, g2, -, -⟩ := hRP.2.1.2 t ht
      obtain ⟨-, g2', -⟩ := hRP.2.2.1.2.1 t ht
      have hpd := hRP.1.2.1 t ht
      have hrank : Rank P E := ends_rank hRP.1 (fun u hu => (hRP.1.2.1 u hu).2.1) hRP.2.2.2.1
      obtain ⟨B', f1, f2, E', od', f3⟩ := sched_ok (dur_pln hRP.1 hk0 hk) (dur_b hRP.2.2.1) hrank (dur_z hRP.1 hRP.2.1 ht) (Rest_frame hRP.2.2.2.2.2.2.2 (B' := bs B 4 t (nI k)) (z' := upd (Z 1) (28 + t) (nI k)) (by rw [bs_o (by omega)]) (by rw [bs_o (by omega)]) (by rw [bs_o (by omega)]) (fun o h1 h2 => bs_o (by omega)) (upd_ne (by omega)) (upd_ne (by omega)) (upd_ne (by omega)) (fun q hq => upd_ne (by omega)) hn)
      refine MOp_ok h0 hp2 hk2 (Z' := bs ZR 1 (28 + t) (nI k)) (Fz.bs (Or.inl rfl)) (r := nI (pd P t)) (B' := B') (nneg (by omega)) ⟨(pn P, pm P, pp P, pa P, u1 (pd P) t k), E', od', ?_⟩ ?_ ?_
      · rw [b1_eq, hZ1]
        exact f3
      · rw [ld_nI (by omega) (by decide), stb_nI (by omega) (by decide), f1, c2_eq, g2']
      · rw [hR, c1_eq, k28, nI_add, ld_nI (by omega) (by decide), stb_nI (by omega) (by decide), hZ1, g2]
    · rw [if_neg d1, if_neg d1]
      exact MOp_err h0 (by decide) rfl rfl
  · rw [(p_has hB a).2 d0, (q_isTask hz a).2 d0]
    exact MOp_err h0 (by decide) rfl rfl
