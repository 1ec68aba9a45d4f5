theorem hours_rel {B : Blk} {z : Nat → Int32} {P : PD} {E o : Nat → Nat} (h : RelP B z P E o) {c : Nat} {v : Int32} (hc : c < 40) : RelP (bs B 14 c v) (upd z (276 + c) v) P E o := by
  have hn := h.n
  refine RelP_rest h (fun q hq => bs_o (by omega)) (fun q hq => upd_ne (by omega)) ?_
  have hr := h.2.2.2.2.2.2.2
  obtain ⟨k, k1, k2, k3, k4⟩ := hr.2.2.2.2.2
  refine Rest_ctr hr (fun q hq => bs_o (by omega)) (fun q hq => upd_ne (by omega)) hn k1 (by rw [bs_o (by omega)]; exact k2) (by rw [upd_ne (by omega)]; exact k3) (fun i hi => ?_)
  obtain ⟨⟨g1, g2, g3, g4⟩, g5, g6⟩ := k4 i hi
  refine ⟨⟨?_, ?_, ?_, ?_⟩, by rw [upd_ne (by omega)]; exact g5, by rw [upd_ne (by omega)]; exact g6⟩
  · rw [bs_o (by omega), upd_ne (by omega)]; exact g1
  · rw [bs_o (by omega), upd_ne (by omega)]; exact g2
  · rw [bs_r, upd_eq]
    by_cases e : i = c
    · rw [if_pos ⟨rfl, e⟩, if_pos (by omega)]
    · rw [if_neg (fun q => e q.2), if_neg (by omega)]; exact g3
  · rw [bs_o (by omega), upd_ne (by omega)]; exact g4
theorem drop_rel {B : Blk} {z : Nat → Int32} {P : PD} {E o : Nat → Nat} (h : RelP B z P E o) {c k : Nat} (hk : z 3 = nI k) (hk4 : k ≤ 40) (hc : c < k) : RelP (bs (bc (bc (bc (bc B 12 (shU (B 12) c (k - 1))) 13 (shU (B 13) c (k - 1))) 14 (shU (B 14) c (k - 1))) 15 (shU (B 15) c (k - 1))) 2 0 (nI (k - 1))) (zdrop (upd z 3 (nI (k - 1))) c (k - 1)) P E o := by
  have hn := h.n
  have zl : ∀ j, j ≠ 3 → (j < 196 ∨ 356 ≤ j) → zdrop (upd z 3 (nI (k - 1))) c (k - 1) j = z j := by
    intro j h1 h2
    unfold zdrop
    rw [if_neg (by omega), upd_ne h1]
  have z3 : zdrop (upd z 3 (nI (k - 1))) c (k - 1) 3 = nI (k - 1) := by
    unfold zdrop
    rw [if_neg (by omega), upd_at]
  have bl : ∀ q, q ≠ 2 → (q < 12 ∨ 16 ≤ q) → bs (bc (bc (bc (bc B 12 (shU (B 12) c (k - 1))) 13 (shU (B 13) c (k - 1))) 14 (shU (B 14) c (k - 1))) 15 (shU (B 15) c (k - 1))) 2 0 (nI (k - 1)) q = B q := by
    intro q h1 h2
    rw [bs_o h1, bc_ne (by omega), bc_ne (by omega), bc_ne (by omega), bc_ne (by omega)]
  refine RelP_rest h (fun q hq => bl q (by omega) (by omega)) (fun q hq => zl q (by omega) (by omega)) ?_
  have hr := h.2.2.2.2.2.2.2
  obtain ⟨k', k1, k2, k3, k4⟩ := hr.2.2.2.2.2
  have ek : k' = k := (nI_eq (by omega) (by omega)).mp (by rw [← k3, hk])
  subst ek
  refine Rest_ctr hr (fun q hq => bl q (by omega) (by omega)) (fun q hq => zl q (by omega) (by omega)) hn (k' := k' - 1) (by omega) bs_kk z3 (fun i hi => ?_)
  have zz : ∀ a, (a = 196 ∨ a = 236 ∨ a = 276 ∨ a = 316) → zdrop (upd z 3 (nI (k' - 1))) c (k' - 1) (a + i) = if c ≤ i then z (a + (i + 1)) else z (a + i) := by
    intro a ha
    unfold zdrop
    by_cases e : c ≤ i
    · rw [if_pos e, if_pos (by omega), upd_ne (by omega), Nat.add_assoc]
    · rw [if_neg e, if_neg (by omega), upd_ne (by omega)]
  have sh : ∀ f : Nat → Int32, shU f c (k' - 1) i = if c ≤ i then f (i + 1) else f i := by
    intro f
    unfold shU
    by_cases e : c ≤ i
    · rw [if_pos e, if_pos (by omega)]
    · rw [if_neg e, if_neg (by omega)]
  rw [zz 196 (by omega), zz 236 (by omega), zz 276 (by omega), zz 316 (by omega)]
  rw [bs_o (o' := 12) (by omega), bs_o (o' := 13) (by omega), bs_o (o' := 14) (by omega), bs_o (o' := 15) (by omega), bc_ne (o' := 12) (by omega), bc_ne (o' := 12) (by omega), bc_ne (o' := 12) (by omega), bc_at, bc_ne (o' := 13) (by omega), bc_ne (o' := 13) (by omega), bc_at, bc_ne (o' := 14) (by omega), bc_at, bc_at, sh, sh, sh, sh]
  by_cases e : c ≤ i
  · rw [if_pos e, if_pos e, if_pos e, if_pos e, if_pos e, if_pos e, if_pos e, if_pos e]
    exact k4 (i + 1) (by omega)
  · rw [if_neg e, if_neg e, if_neg e, if_neg e, if_neg e, if_neg e, if_neg e, if_neg e]
    exact k4 i (by omega)
set_option maxRecDepth 100000 in
/-- hours off a contract -/
theorem lessen_both {B Y : Blk} {z : Nat → Int32} {P : PD} {E o : Nat → Nat} (h : RelP B z P E o) {c k : Nat} {l : Int32} (hk : z 3 = nI k) (hk4 : k ≤ 40) (hc : c < k) : ∃ (B' : Blk) (z' : Nat → Int32), FX0_lessen B (nI c) l = some (z (276 + c) - l, B') ∧ RelP B' z' P E o ∧
    (ld (bc Y 1 z 1) 356 (nI (276 + c)) fun v66 => stb (bc Y 1 z) 1 356 (nI (276 + c)) (v66 - l) fun B69 => ld (B69 1) 356 (nI (276 + c)) fun v72 => if v72 = 0 then c1 (FX6_dropContract B69 (nI c)) fun B78 => some (v72, B78) else some (v72, B69)) = some (z (276 + c) - l, bc Y 1 z') := by
  have h1 := hours_rel h (c := c) (v := z (276 + c) - l) (by omega)
  obtain ⟨k', k1, k2, k3, k4⟩ := h.2.2.2.2.2.2.2.2.2.2.2.2
  have ek : k' = k := (nI_eq (by omega) (by omega)).mp (by rw [← k3, hk])
  subst ek
  have e14 : B 14 c = z (276 + c) := (k4 c hc).1.2.2.1
  unfold FX0_lessen
  rw [ld_nI (by omega) (by decide), e14, stb_nI (by omega) (by decide), ld_nI (by omega) (by decide), bs_kk, bc_at, ld_nI (by omega) (by decide), stb_nI (by omega) (by decide), ld_nI (by omega) (by decide), bs_bc, bc_at, upd_at]
  by_cases c0 : z (276 + c) - l = 0
  · rw [if_pos c0, if_pos c0, p_remove (by rw [bs_o (by omega)]; exact k2) hk4 hc, q_drop (Z := bc Y 1 (upd z (276 + c) (z (276 + c) - l))) (k := k') (by rw [bc_at, upd_ne (by omega)]; exact hk) hk4 hc, c1_eq, c1_eq]
    refine ⟨_, _, rfl, drop_rel h1 (by rw [upd_ne (by omega)]; exact hk) hk4 hc, ?_⟩
    rw [bc_at]
    congr 2
    funext q
    by_cases e : q = 1
    · subst e; rw [bc_at, bc_at]
    · rw [bc_ne e, bc_ne e, bc_ne e]
  · rw [if_neg c0, if_neg c0]
    exact ⟨_, _, rfl, h1, rfl⟩
set_option maxRecDepth 100000 in
theorem m_refund (a b : Int32) : MOp (fun B => FX2_giveBack B a b) (fun Z => FX6_refund Z a b) := by
  intro B Z h hi hq
  show OpGoal B Z (FX2_giveBack B a b) (FX6_refund Z a b)
  have h0 := h
  obtain ⟨P, E, o, hRP⟩ := h
  have hn := hRP.n
  have hP := hRP.1
  have hr := hRP.2.2.2.2.2.2.2
  obtain ⟨⟨a1, -, -, -⟩, htk, ⟨du, hd1, hd2⟩, -, -, k, hk1, hk2, hk3, hk4⟩ := hr
  unfold FX2_giveBack FX6_refund
  by_cases d0 : inT k a
  · rw [(p_hasC hk2 a).1 d0, (q_isContract hk3 a).1 d0, c1_eq, c1_eq, if_neg (show ¬ (1 : Int32) = 0 by decide), if_neg (show ¬ (1 : Int32) = 0 by decide), cin1, q_in, c1_eq, ite_bool]
    obtain ⟨c, hc, rfl⟩ := inT_of d0 (by omega)
    by_cases d1 : 1 ≤ b ∧ b ≤ 500
    · obtain ⟨hh, hh0, hh1, rfl⟩ := nI_btw (a := 1) (b := 500) (by decide) d1.1 d1.2 (by decide)
      obtain ⟨⟨g1, g2, g3, g4⟩, ⟨s, hs, g5⟩, ⟨b, hb, g6⟩⟩ := hk4 c hc
      rw [if_pos d1, if_pos d1, k276, nI_add, ld_nI (f := B 14) (by omega) (by decide), ld_nI (f := Z 1) (by omega) (by decide), g3]
      by_cases d2 : nI hh ≤ Z 1 (276 + c)
      · rw [if_pos d2, if_pos d2, ld_nI (f := B 12) (by omega) (by decide), ld_nI (f := B 13) (by omega) (by decide), ld_nI (f := B 15) (by omega) (by decide), g1, g2, g4, g5, g6, lt1_eq, k196, nI_add, ld_nI (f := Z 1) (by omega) (by decide), k236, nI_add, ld_nI (f := Z 1) (by omega) (by decide), k316, nI_add, ld_nI (f := Z 1) (by omega) (by decide), k1, ld_nI (f := Z 1) (by omega) (by decide), lt1_eq, g5, g6, ← a1]
        obtain ⟨x, hx⟩ : ∃ x, nI hh * Z 1 (316 + c) * B 0 2 / 100 = x := ⟨_, rfl⟩
        rw [hx]
        obtain ⟨Z2, r1, r2, r3⟩ := reck hP hRP.2.1 (held_none hP hi.1) hRP.2.2.2.2.1 hRP.2.2.2.1
        have hZ2 : Z2 1 = Z 1 := r2 1 (by omega) (by omega)
        have eE : B 6 b = nI (E b) := hRP.2.2.2.2.2.1 b hb
        have eD : B 16 b = nI (du b) := by rw [(htk b hb).1]; exact hd1 b hb
        have hdl : du b ≤ 72000 := by
          have := sumN_le (f := du) hb
          omega
        have hEl := hRP.E_le hb
        rw [r1, c2_eq, ld_nI (f := B 16) (by omega) (by decide), ld_nI (f := B 6) (by omega) (by decide), eE, eD, ld_nI (f := Z2 8) (by omega) (by decide), k52, nI_add, ld_nI (f := Z2 1) (by omega) (by decide), hZ2, (r3 b hb).2, hd1 b hb]
        have err : OpGoal B Z (some (-5, B)) (some (-5, Z2)) := ⟨-5, B, Z2, rfl, rfl, by rw [hZ2]; exact h0, ⟨r2 3 (by omega) (by omega), r2 4 (by omega) (by omega), r2 6 (by omega) (by omega), r2 11 (by omega) (by omega)⟩, Or.inl ⟨by decide, r2 0 (by omega) (by omega), r2 2 (by omega) (by omega)⟩⟩
        by_cases d3 : nI (du b) - nI hh < nI (E b)
        · rw [if_pos d3, if_pos d3]
          exact err
        · rw [if_neg d3, if_neg d3, ld_nI (f := B 17) (by omega) (by decide), k76, nI_add, ld_nI (f := Z 1) (by omega) (by decide), (htk s hs).2.1]
          have hle : hh ≤ du b := by
            by_cases q : hh ≤ du b
            · exact q
            · exfalso
              have h1 := nI_subneg (a := du b) (b := hh) (by omega) (by omega)
              exact d3 (Int32.lt_of_lt_of_le h1 (nI_pos' (by omega)))
          by_cases d4 : x ≤ Z 1 (76 + s)
          · rw [if_pos d4, if_pos d4]
            obtain ⟨ZR, q1, q2, q3⟩ := q_record (Z := Z2) (hq.cg (r2 0 (by omega) (by omega)))
            have hZR : ZR 1 = Z 1 := by rw [q3 1 (by omega) (by omega), hZ2]
            have eZR : ZR = bc ZR 1 (Z 1) := by rw [← hZR, bc_self]
            have R1 := due2_rel hRP hd1 hd2 hs hb hle
            have R2 := money_rel R1 (t := s) (v := Z 1 (76 + s) - x) hs
            obtain ⟨B2, hB2⟩ : ∃ B2, bs (bs (bs B 16 b (nI (du b - hh))) 16 s (nI (u1 du b (du b - hh) s + hh))) 17 s (Z 1 (76 + s) - x) = B2 := ⟨_, rfl⟩
            obtain ⟨z2, hz2⟩ : ∃ z2, upd (upd (upd (Z 1) (52 + b) (nI (du b - hh))) (52 + s) (nI (u1 du b (du b - hh) s + hh))) (76 + s) (Z 1 (76 + s) - x) = z2 := ⟨_, rfl⟩
            rw [hB2, hz2] at R2
            have R3 := money_rel R2 (t := b) (v := z2 (76 + b) + x) hb
            have e17 : B2 17 b = z2 (76 + b) := (R2.2.2.2.2.2.2.2.2.1 b hb).2.1
            obtain ⟨B', z', l1, l2, l3⟩ := lessen_both (Y := ZR) R3 (c := c) (k := k) (l := nI hh) (by rw [upd_ne (by omega), ← hz2, upd_ne (by omega), upd_ne (by omega), upd_ne (by omega)]; exact hk3) hk1 hc
            have e276 : upd z2 (76 + b) (z2 (76 + b) + x) (276 + c) = Z 1 (276 + c) := by
              rw [upd_ne (by omega), ← hz2, upd_ne (by omega), upd_ne (by omega), upd_ne (by omega)]
            rw [e276] at l1 l3
            have hres : ¬ Z 1 (276 + c) - nI hh < 0 := by
              obtain ⟨m, hm, hm2⟩ : ∃ m, m < 2 ^ 31 ∧ Z 1 (276 + c) = nI m := nI_of (fun q => absurd (Int32.lt_of_le_of_lt d2 q) (nneg (by omega)))
              rw [hm2] at d2 ⊢
              rw [nI_sub ((nI_leI (by omega) hm).mp d2)]
              exact nneg (by omega)
            have zk : ∀ o, o ≠ 0 → o ≠ 1 → o ≠ 2 → o ≠ 7 → o ≠ 8 → bc ZR 1 z' o = Z o := fun o h0 h1 h2 h7 h8 => by rw [bc_ne h1, q3 o h0 h2, r2 o h7 h8]
            refine ⟨Z 1 (276 + c) - nI hh, B', bc ZR 1 z', ?_, ?_, ⟨P, E, o, by rw [bc_at]; exact l2⟩, ⟨zk 3 (by omega) (by omega) (by omega) (by omega) (by omega), zk 4 (by omega) (by omega) (by omega) (by omega) (by omega), zk 6 (by omega) (by omega) (by omega) (by omega) (by omega), zk 11 (by omega) (by omega) (by omega) (by omega) (by omega)⟩, Or.inr ⟨hres, Z 1, h0, ?_⟩⟩
            · rw [ld_nI (f := B 16) (by omega) (by decide), eD, nI_sub hle, stb_nI (by omega) (by decide), ld_nI (by omega) (by decide)]
              have u16 : bs B 16 b (nI (du b - hh)) 16 s = nI (u1 du b (du b - hh) s) := by
                rw [bs_r]
                by_cases e : s = b
                · rw [if_pos ⟨rfl, e⟩, e, u1_at]
                · rw [if_neg (fun q => e q.2), u1_ne e, (htk s hs).1]; exact hd1 s hs
              rw [u16, nI_add, stb_nI (by omega) (by decide), ld_nI (by omega) (by decide)]
              have u17 : bs (bs B 16 b (nI (du b - hh))) 16 s (nI (u1 du b (du b - hh) s + hh)) 17 s = Z 1 (76 + s) := by
                rw [bs_o (by omega), bs_o (by omega)]; exact (htk s hs).2.1
              rw [u17, stb_nI (by omega) (by decide), hB2, ld_nI (by omega) (by decide), e17, stb_nI (by omega) (by decide), l1, c2_eq]
            · have w52 : upd (Z 1) (52 + b) (nI (du b - hh)) (52 + s) = nI (u1 du b (du b - hh) s) := by
                rw [upd_eq]
                by_cases e : s = b
                · rw [if_pos (by omega), e, u1_at]
                · rw [if_neg (by omega), u1_ne e]; exact hd1 s hs
              have w76 : upd (upd (Z 1) (52 + b) (nI (du b - hh))) (52 + s) (nI (u1 du b (du b - hh) s + hh)) (76 + s) = Z 1 (76 + s) := by
                rw [upd_ne (by omega), upd_ne (by omega)]
              rw [q1, c1_eq, ld_nI (f := ZR 1) (by omega) (by decide), hZR, hd1 b hb, nI_sub hle, stb_nI (by omega) (by decide), b1_eq, hZR, nI_add, ld_nI (by omega) (by decide), w52, nI_add, stb_nI (by omega) (by decide), ld_nI (by omega) (by decide), b1_eq, b1_eq, hZR, w76, stb_nI (by omega) (by decide), nI_add, ld_nI (by omega) (by decide), b1_eq, b1_eq, b1_eq, hZR, hz2, stb_nI (by omega) (by decide)]
              have eB : bs (bs (bs (bs ZR 1 (52 + b) (nI (du b - hh))) 1 (52 + s) (nI (u1 du b (du b - hh) s + hh))) 1 (76 + s) (Z 1 (76 + s) - x)) 1 (76 + b) (z2 (76 + b) + x) = bc ZR 1 (upd z2 (76 + b) (z2 (76 + b) + x)) := by
                funext q
                by_cases e : q = 1
                · subst e; rw [b1_eq, b1_eq, b1_eq, b1_eq, hZR, hz2, bc_at]
                · rw [bs_o e, bs_o e, bs_o e, bs_o e, bc_ne e]
              rw [eB]
              exact l3
            · have q2' : Pushed Z2 ZR (Z 1) := by rw [← hZ2]; exact q2
              exact q2'.cg (r2 0 (by omega) (by omega)) (r2 2 (by omega) (by omega)) (bc_ne (by omega)) (bc_ne (by omega))
          · rw [if_neg d4, if_neg d4]
            exact err
      · rw [if_neg d2, if_neg d2]
        exact MOp_err h0 (by decide) rfl rfl
    · rw [if_neg d1, if_neg d1]
      exact MOp_err h0 (by decide) rfl rfl
  · rw [(p_hasC hk2 a).2 d0, (q_isContract hk3 a).2 d0]
    exact MOp_err h0 (by decide) rfl rfl
