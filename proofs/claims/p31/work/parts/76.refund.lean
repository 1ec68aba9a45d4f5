/-! the law's refunds() -/
def yre (y : Nat → Nat) (s b x back c h : Nat) : Nat → Nat := u1 (u1 (u1 (u1 (u1 y (52 + b) (y (52 + b) - x)) (52 + s) (y (52 + s) + x)) (76 + s) (y (76 + s) - back)) (76 + b) (y (76 + b) + back)) (276 + c) h
def ydr (y : Nat → Nat) (c : Nat) : Nat → Nat := fun q => if q = 3 then y 3 - 1 else if (196 + c ≤ q ∧ q < 196 + (y 3 - 1)) ∨ (236 + c ≤ q ∧ q < 236 + (y 3 - 1)) ∨ (276 + c ≤ q ∧ q < 276 + (y 3 - 1)) ∨ (316 + c ≤ q ∧ q < 316 + (y 3 - 1)) then y (q + 1) else y q
theorem ydr_lo {y : Nat → Nat} {c q : Nat} (h : q < 196) (h3 : q ≠ 3) : ydr y c q = y q := by
  unfold ydr
  rw [if_neg h3, if_neg (by omega)]
theorem ydr_at {y : Nat → Nat} {c a i : Nat} (hk : y 3 ≤ 40) (ha : a = 196 ∨ a = 236 ∨ a = 276 ∨ a = 316) (hi : i < y 3 - 1) : ydr y c (a + i) = y (a + (if c ≤ i then i + 1 else i)) := by
  unfold ydr
  rw [if_neg (by omega)]
  by_cases w : c ≤ i
  · rw [if_pos (by omega), if_pos w, Nat.add_assoc]
  · rw [if_neg (by omega), if_neg w]
/-- contracts are between two tasks, and have hours -/
def CC (y : Nat → Nat) : Prop := ∀ c, c < y 3 → y (196 + c) ≠ y (236 + c) ∧ 1 ≤ y (276 + c)
theorem nI_sub_lt {a x e : Nat} (ha : a < 2 ^ 31) (hx : x < 2 ^ 31) (he : e < 2 ^ 31) : nI a - nI x < nI e ↔ (a : Int) - x < e := by
  rw [Int32.lt_iff_toInt_lt, nI_subI ha hx, nI_toInt he]
set_option maxRecDepth 100000 in
theorem b_refund {B : Blk} {P : PD} {E o y : Nat → Nat} (h : StB B P E o y) (hC : CC y) {c x s b p back : Nat} (hc : c < y 3) (hs : y (196 + c) = s) (hb : y (236 + c) = b) (hp : y (316 + c) = p) (hx1 : 1 ≤ x) (hx2 : x ≤ y (276 + c)) (hbk : x * p * y 1 / 100 = back) :
    ((¬ (x ≤ y (52 + b) - E b ∧ back ≤ y (76 + s))) → FX2_giveBack B (nI c) (nI x) = some (-5, B)) ∧ ((x ≤ y (52 + b) - E b ∧ back ≤ y (76 + s)) → ∃ (B' : Blk) (y' : Nat → Nat), FX2_giveBack B (nI c) (nI x) = some (nI (y (276 + c) - x), B') ∧ StB B' P E o y' ∧ CC y' ∧ sumN (fun t => y' (52 + t)) (pn P) = sumN (fun t => y (52 + t)) (pn P) ∧ sumN (fun t => y' (76 + t)) (pn P) = sumN (fun t => y (76 + t)) (pn P) ∧ y' (76 + s) = y (76 + s) - back ∧ y' 3 = (if y (276 + c) = x then y 3 - 1 else y 3)) := by
  have hn := h.n
  obtain ⟨g1, ⟨g2, g2'⟩, g3, g4, g5, g6, g7⟩ := h.2
  obtain ⟨b1, b2, b3, b4, b5⟩ := h.by
  obtain ⟨hsn, hbn, hhb, hpb⟩ := g7 c hc
  obtain ⟨c1', c2', c3', c4'⟩ := b5 c hc
  rw [hs] at hsn c1'
  rw [hb] at hbn c2'
  rw [hp] at hpb c4'
  have hsb : s ≠ b := by rw [← hs, ← hb]; exact (hC c hc).1
  obtain ⟨s1, s2, s3, s4⟩ := b4 s hsn
  obtain ⟨t1, t2, t3, t4⟩ := b4 b hbn
  obtain ⟨es1, es2, es3⟩ := h.Ele hsn
  obtain ⟨eb1, eb2, eb3⟩ := h.Ele hbn
  have ms : y (76 + s) ≤ 200000000 := Nat.le_trans (sumN_le (f := fun t => y (76 + t)) hsn) g5
  have mb : y (76 + b) ≤ 200000000 := Nat.le_trans (sumN_le (f := fun t => y (76 + t)) hbn) g5
  have hm : x * p * y 1 ≤ 500 * 1000 * 100 := Nat.mul_le_mul (Nat.mul_le_mul (by omega) hpb) g1
  have hbb : back ≤ 500 * 1000 * 100 := by rw [← hbk]; exact Nat.le_trans (Nat.div_le_self _ _) hm
  have hh : FX0_has B (nI c) = some 1 := (p_hasC b3 _).1 (inT_nI hc (by omega))
  have st : FX2_giveBack B (nI c) (nI x) = if (nI (y (52 + b)) - nI x) < nI (E b) then some ((-5 : Int32), B) else if nI back ≤ nI (y (76 + s)) then (stb B 16 24 (nI b) (nI (y (52 + b)) - nI x) fun B35 => ld (B35 16) 24 (nI s) fun v38 => stb B35 16 24 (nI s) (v38 + nI x) fun B41 => ld (B41 17) 24 (nI s) fun v44 => stb B41 17 24 (nI s) (v44 - nI back) fun B47 => ld (B47 17) 24 (nI b) fun v50 => stb B47 17 24 (nI b) (v50 + nI back) fun B53 => c2 (FX0_lessen B53 (nI c) (nI x)) fun r56 B58 => some (r56, B58)) else some ((-5 : Int32), B) := by
    unfold FX2_giveBack
    rw [hh, c1_eq, if_neg (show ¬ (1 : Int32) = 0 by decide), k1, lt_nI (by omega) (by omega), if_neg (by omega), show (500 : Int32) = nI 500 from rfl, lt_nI (by omega) (by omega), if_neg (by omega), ld_nI (by omega) (by decide), c3', le_nI (by omega) (by omega), if_pos hx2, ld_nI (by omega) (by decide), c1', ld_nI (by omega) (by decide), c2', ld_nI (by omega) (by decide), c4', b1, pk_mul, pk_mul, show (100 : Int32) = nI 100 from rfl, pk_div (by omega) (by omega) (by omega), hbk, lt1_eq, ld_nI (f := B 16) (by omega) (by decide), t1, ld_nI (f := B 6) (by omega) (by decide), h.e6 hbn, ld_nI (f := B 17) (by omega) (by decide), s2, ld_nI (f := B 16) (by omega) (by decide), t1]
  have hcond : (nI (y (52 + b)) - nI x) < nI (E b) ↔ ¬ x ≤ y (52 + b) - E b := by
    rw [nI_sub_lt (by omega) (by omega) (by omega)]
    omega
  rw [st, le_nI (by omega) (by omega)]
  refine ⟨fun q => ?_, fun q => ?_⟩
  · by_cases c1 : x ≤ y (52 + b) - E b
    · rw [if_neg (fun w => hcond.mp w c1), if_neg (fun w => q ⟨c1, w⟩)]
    · rw [if_pos (hcond.mpr c1)]
  · rw [if_neg (fun w => hcond.mp w q.1), if_pos q.2]
    obtain ⟨q1, q2⟩ := q
    obtain ⟨hc0, hhc⟩ : ∃ hc0, y (276 + c) = hc0 := ⟨_, rfl⟩
    rw [hhc] at hx2 hhb c3' ⊢
    obtain ⟨yq, hyq⟩ : ∃ yq, yre y s b x back c (hc0 - x) = yq := ⟨_, rfl⟩
    -- what yq is
    have k3 : yq 3 = y 3 := by rw [← hyq]; unfold yre; (repeat (first | rw [u1_ne (by omega)] | rw [u1_at]))
    have k1' : yq 1 = y 1 := by rw [← hyq]; unfold yre; (repeat (first | rw [u1_ne (by omega)] | rw [u1_at]))
    have k2' : yq 2 = y 2 := by rw [← hyq]; unfold yre; (repeat (first | rw [u1_ne (by omega)] | rw [u1_at]))
    have ku : ∀ t, t < pn P → yq (124 + t) = y (124 + t) ∧ yq (148 + t) = y (148 + t) := fun t ht => by rw [← hyq]; unfold yre; (repeat (first | rw [u1_ne (by omega)] | rw [u1_at])); exact ⟨rfl, rfl⟩
    have kb : yq (52 + b) = y (52 + b) - x ∧ yq (76 + b) = y (76 + b) + back := by rw [← hyq]; unfold yre; (repeat (first | rw [u1_ne (by omega)] | rw [u1_at])); exact ⟨rfl, rfl⟩
    have ks : yq (52 + s) = y (52 + s) + x ∧ yq (76 + s) = y (76 + s) - back := by rw [← hyq]; unfold yre; (repeat (first | rw [u1_ne (by omega)] | rw [u1_at])); exact ⟨rfl, rfl⟩
    have ko : ∀ t, t < pn P → t ≠ s → t ≠ b → yq (52 + t) = y (52 + t) ∧ yq (76 + t) = y (76 + t) := fun t ht w1 w2 => by rw [← hyq]; unfold yre; (repeat (first | rw [u1_ne (by omega)] | rw [u1_at])); exact ⟨rfl, rfl⟩
    have kc : ∀ i, i < y 3 → yq (196 + i) = y (196 + i) ∧ yq (236 + i) = y (236 + i) ∧ yq (316 + i) = y (316 + i) := fun i hi => by rw [← hyq]; unfold yre; (repeat (first | rw [u1_ne (by omega)] | rw [u1_at])); exact ⟨rfl, rfl, rfl⟩
    have kh : yq (276 + c) = hc0 - x := by rw [← hyq]; unfold yre; (repeat (first | rw [u1_ne (by omega)] | rw [u1_at]))
    have kh2 : ∀ i, i < y 3 → i ≠ c → yq (276 + i) = y (276 + i) := fun i hi w => by rw [← hyq]; unfold yre; (repeat (first | rw [u1_ne (by omega)] | rw [u1_at]))
    have sm1 : sumN (fun t => yq (52 + t)) (pn P) = sumN (fun t => y (52 + t)) (pn P) := sum2 hsn hbn hsb (fun t ht w1 w2 => (ko t ht w1 w2).1) (by show yq (52 + s) + yq (52 + b) = y (52 + s) + y (52 + b); rw [ks.1, kb.1]; omega)
    have sm2 : sumN (fun t => yq (76 + t)) (pn P) = sumN (fun t => y (76 + t)) (pn P) := sum2 hsn hbn hsb (fun t ht w1 w2 => (ko t ht w1 w2).2) (by show yq (76 + s) + yq (76 + b) = y (76 + s) + y (76 + b); rw [ks.2, kb.2]; omega)
    have ybq : YB (pn P) yq := by
      refine ⟨by rw [k1']; exact g1, by rw [k2']; exact ⟨g2, g2'⟩, by rw [k3]; exact g3, by rw [sm1]; exact g4, by rw [sm2]; exact g5, fun t ht => by rw [(ku t ht).1, (ku t ht).2]; exact g6 t ht, fun i hi => ?_⟩
      rw [k3] at hi
      obtain ⟨w1, w2, w3, w4⟩ := g7 i hi
      rw [(kc i hi).1, (kc i hi).2.1, (kc i hi).2.2]
      refine ⟨w1, w2, ?_, w4⟩
      by_cases e : i = c
      · subst e; rw [kh]; omega
      · rw [kh2 i hi e]; exact w3
    -- the blocks
    obtain ⟨B1, hB1⟩ : ∃ B1, bs (bs B 16 b (nI (y (52 + b) - x))) 16 s (nI (y (52 + s) + x)) = B1 := ⟨_, rfl⟩
    obtain ⟨B2, hB2⟩ : ∃ B2, bs (bs B1 17 s (nI (y (76 + s) - back))) 17 b (nI (y (76 + b) + back)) = B2 := ⟨_, rfl⟩
    obtain ⟨B3, hB3⟩ : ∃ B3, bs B2 14 c (nI (hc0 - x)) = B3 := ⟨_, rfl⟩
    have e1 : bs B 16 b (nI (y (52 + b) - x)) 16 s = nI (y (52 + s)) := by (repeat (first | rw [bs_o (by omega)] | rw [bs_kk] | rw [bs_kn (by omega)])); exact s1
    have e2 : B1 17 s = nI (y (76 + s)) := by rw [← hB1]; (repeat (first | rw [bs_o (by omega)] | rw [bs_kk] | rw [bs_kn (by omega)])); exact s2
    have e3 : bs B1 17 s (nI (y (76 + s) - back)) 17 b = nI (y (76 + b)) := by rw [← hB1]; (repeat (first | rw [bs_o (by omega)] | rw [bs_kk] | rw [bs_kn (by omega)])); exact t2
    have e4 : B2 14 c = nI hc0 := by rw [← hB2, ← hB1]; (repeat (first | rw [bs_o (by omega)] | rw [bs_kk] | rw [bs_kn (by omega)])); exact c3'
    have e5 : B3 14 c = nI (hc0 - x) := by rw [← hB3]; (repeat (first | rw [bs_o (by omega)] | rw [bs_kk] | rw [bs_kn (by omega)]))
    have stq : StB B3 P E o yq := by
      refine h.mk (fun q hq => by rw [← hB3, ← hB2, ← hB1]; (repeat (first | rw [bs_o (by omega)] | rw [bs_kk] | rw [bs_kn (by omega)]))) ⟨?_, ?_, ?_, fun t ht => ⟨?_, ?_, ?_, ?_⟩, fun i hi => ⟨?_, ?_, ?_, ?_⟩⟩ ybq
      · rw [← hB3, ← hB2, ← hB1, k1']; (repeat (first | rw [bs_o (by omega)] | rw [bs_kk] | rw [bs_kn (by omega)])); exact b1
      · rw [← hB3, ← hB2, ← hB1, k2']; (repeat (first | rw [bs_o (by omega)] | rw [bs_kk] | rw [bs_kn (by omega)])); exact b2
      · rw [← hB3, ← hB2, ← hB1, k3]; (repeat (first | rw [bs_o (by omega)] | rw [bs_kk] | rw [bs_kn (by omega)])); exact b3
      · by_cases w1 : t = s
        · subst w1; rw [← hB3, ← hB2, ← hB1, ks.1]; (repeat (first | rw [bs_o (by omega)] | rw [bs_kk] | rw [bs_kn (by omega)]))
        · by_cases w2 : t = b
          · subst w2; rw [← hB3, ← hB2, ← hB1, kb.1]; (repeat (first | rw [bs_o (by omega)] | rw [bs_kk] | rw [bs_kn (by omega)]))
          · rw [← hB3, ← hB2, ← hB1, (ko t ht w1 w2).1]; (repeat (first | rw [bs_o (by omega)] | rw [bs_kk] | rw [bs_kn (by omega)])); exact (b4 t ht).1
      · by_cases w2 : t = b
        · subst w2; rw [← hB3, ← hB2, kb.2]; (repeat (first | rw [bs_o (by omega)] | rw [bs_kk] | rw [bs_kn (by omega)]))
        · by_cases w1 : t = s
          · subst w1; rw [← hB3, ← hB2, ks.2]; (repeat (first | rw [bs_o (by omega)] | rw [bs_kk] | rw [bs_kn (by omega)]))
          · rw [← hB3, ← hB2, ← hB1, (ko t ht w1 w2).2]; (repeat (first | rw [bs_o (by omega)] | rw [bs_kk] | rw [bs_kn (by omega)])); exact (b4 t ht).2.1
      · rw [← hB3, ← hB2, ← hB1, (ku t ht).1]; (repeat (first | rw [bs_o (by omega)] | rw [bs_kk] | rw [bs_kn (by omega)])); exact (b4 t ht).2.2.1
      · rw [← hB3, ← hB2, ← hB1, (ku t ht).2]; (repeat (first | rw [bs_o (by omega)] | rw [bs_kk] | rw [bs_kn (by omega)])); exact (b4 t ht).2.2.2
      · rw [k3] at hi
        rw [← hB3, ← hB2, ← hB1, (kc i hi).1]; (repeat (first | rw [bs_o (by omega)] | rw [bs_kk] | rw [bs_kn (by omega)])); exact (b5 i hi).1
      · rw [k3] at hi
        rw [← hB3, ← hB2, ← hB1, (kc i hi).2.1]; (repeat (first | rw [bs_o (by omega)] | rw [bs_kk] | rw [bs_kn (by omega)])); exact (b5 i hi).2.1
      · rw [k3] at hi
        by_cases w : i = c
        · subst w; rw [e5, kh]
        · rw [← hB3, ← hB2, ← hB1, kh2 i hi w]; (repeat (first | rw [bs_o (by omega)] | rw [bs_kk] | rw [bs_kn (by omega)])); exact (b5 i hi).2.2.1
      · rw [k3] at hi
        rw [← hB3, ← hB2, ← hB1, (kc i hi).2.2]; (repeat (first | rw [bs_o (by omega)] | rw [bs_kk] | rw [bs_kn (by omega)])); exact (b5 i hi).2.2.2
    have run : (stb B 16 24 (nI b) (nI (y (52 + b)) - nI x) fun B35 => ld (B35 16) 24 (nI s) fun v38 => stb B35 16 24 (nI s) (v38 + nI x) fun B41 => ld (B41 17) 24 (nI s) fun v44 => stb B41 17 24 (nI s) (v44 - nI back) fun B47 => ld (B47 17) 24 (nI b) fun v50 => stb B47 17 24 (nI b) (v50 + nI back) fun B53 => c2 (FX0_lessen B53 (nI c) (nI x)) fun r56 B58 => some (r56, B58)) = c2 (if hc0 - x = 0 then c1 (FX0_remove B3 (nI c)) fun B13 => some (nI (hc0 - x), B13) else some (nI (hc0 - x), B3)) fun r56 B58 => some (r56, B58) := by
      rw [nI_sub (by omega), stb_nI (by omega) (by decide), ld_nI (by omega) (by decide), e1, nI_add, stb_nI (by omega) (by decide), hB1, ld_nI (by omega) (by decide), e2, nI_sub q2, stb_nI (by omega) (by decide), ld_nI (by omega) (by decide), e3, nI_add, stb_nI (by omega) (by decide), hB2]
      unfold FX0_lessen
      rw [ld_nI (by omega) (by decide), e4, nI_sub hx2, stb_nI (by omega) (by decide), hB3, ld_nI (by omega) (by decide), e5, if_nI0 (by omega)]
    rw [run]
    by_cases cz : hc0 - x = 0
    · rw [if_pos cz, p_remove (k := y 3) (by rw [← k3]; exact stq.by.2.2.1) g3 hc, c1_eq, c2_eq]
      obtain ⟨B4, hB4⟩ : ∃ B4, bs (bc (bc (bc (bc B3 12 (shU (B3 12) c (y 3 - 1))) 13 (shU (B3 13) c (y 3 - 1))) 14 (shU (B3 14) c (y 3 - 1))) 15 (shU (B3 15) c (y 3 - 1))) 2 0 (nI (y 3 - 1)) = B4 := ⟨_, rfl⟩
      rw [hB4]
      have d3 : ydr yq c 3 = y 3 - 1 := by unfold ydr; rw [if_pos rfl, k3]
      have fB : ∀ q, q ≠ 2 → q ≠ 12 → q ≠ 13 → q ≠ 14 → q ≠ 15 → B4 q = B3 q := fun q h2 h12 h13 h14 h15 => by rw [← hB4, bs_o h2, bc_ne h15, bc_ne h14, bc_ne h13, bc_ne h12]
      have f12 : B4 12 = shU (B3 12) c (y 3 - 1) := by rw [← hB4, bs_o (by omega), bc_ne (by omega), bc_ne (by omega), bc_ne (by omega), bc_at]
      have f13 : B4 13 = shU (B3 13) c (y 3 - 1) := by rw [← hB4, bs_o (by omega), bc_ne (by omega), bc_ne (by omega), bc_at]
      have f14 : B4 14 = shU (B3 14) c (y 3 - 1) := by rw [← hB4, bs_o (by omega), bc_ne (by omega), bc_at]
      have f15 : B4 15 = shU (B3 15) c (y 3 - 1) := by rw [← hB4, bs_o (by omega), bc_at]
      obtain ⟨v1, v2, v3, v4, v5⟩ := stq.by
      obtain ⟨w1, w2, w3, w4, w5, w6, w7⟩ := ybq
      have hkq : yq 3 ≤ 40 := w3
      have hix : ∀ i, i < y 3 - 1 → (if c ≤ i then i + 1 else i) < yq 3 := fun i hi => by rw [k3]; split <;> omega
      have sh : ∀ (f : Nat → Int32) i, i < y 3 - 1 → shU f c (y 3 - 1) i = f (if c ≤ i then i + 1 else i) := fun f i hi => by
        unfold shU
        by_cases w : c ≤ i
        · rw [if_pos ⟨w, hi⟩, if_pos w]
        · rw [if_neg (fun q => w q.1), if_neg w]
      refine ⟨B4, ydr yq c, rfl, stq.mk (fun q hq => fB q (by omega) (by omega) (by omega) (by omega) (by omega)) ⟨?_, ?_, ?_, fun t ht => ?_, fun i hi => ?_⟩ ⟨?_, ?_, ?_, ?_, ?_, fun t ht => ?_, fun i hi => ?_⟩, fun i hi => ?_, ?_, ?_, ?_, ?_⟩
      · rw [fB 0 (by omega) (by omega) (by omega) (by omega) (by omega), ydr_lo (by omega) (by omega)]; exact v1
      · rw [fB 0 (by omega) (by omega) (by omega) (by omega) (by omega), ydr_lo (by omega) (by omega)]; exact v2
      · rw [d3, ← hB4, bs_kk]
      · rw [fB 16 (by omega) (by omega) (by omega) (by omega) (by omega), fB 17 (by omega) (by omega) (by omega) (by omega) (by omega), fB 18 (by omega) (by omega) (by omega) (by omega) (by omega), fB 19 (by omega) (by omega) (by omega) (by omega) (by omega), ydr_lo (by omega) (by omega), ydr_lo (by omega) (by omega), ydr_lo (by omega) (by omega), ydr_lo (by omega) (by omega)]
        exact v4 t ht
      · rw [d3] at hi
        have hi' : i < yq 3 - 1 := by rw [k3]; exact hi
        rw [f12, f13, f14, f15, sh _ i hi, sh _ i hi, sh _ i hi, sh _ i hi, ydr_at hkq (by omega) hi', ydr_at hkq (by omega) hi', ydr_at hkq (by omega) hi', ydr_at hkq (by omega) hi']
        exact v5 _ (hix i hi)
      · rw [ydr_lo (by omega) (by omega)]; exact w1
      · rw [ydr_lo (by omega) (by omega)]; exact w2
      · rw [d3]; omega
      · rw [sumN_congr (g := fun t => yq (52 + t)) (fun t ht => ydr_lo (by omega) (by omega))]; exact w4
      · rw [sumN_congr (g := fun t => yq (76 + t)) (fun t ht => ydr_lo (by omega) (by omega))]; exact w5
      · rw [ydr_lo (by omega) (by omega), ydr_lo (by omega) (by omega)]; exact w6 t ht
      · rw [d3] at hi
        have hi' : i < yq 3 - 1 := by rw [k3]; exact hi
        rw [ydr_at hkq (by omega) hi', ydr_at hkq (by omega) hi', ydr_at hkq (by omega) hi', ydr_at hkq (by omega) hi']
        exact w7 _ (hix i hi)
      · rw [d3] at hi
        have hi' : i < yq 3 - 1 := by rw [k3]; exact hi
        rw [ydr_at hkq (by omega) hi', ydr_at hkq (by omega) hi', ydr_at hkq (by omega) hi']
        have hx := hix i hi
        obtain ⟨ix, hix2⟩ : ∃ ix, (if c ≤ i then i + 1 else i) = ix := ⟨_, rfl⟩
        have hne : ix ≠ c := by rw [← hix2]; split <;> omega
        rw [hix2, k3] at hx
        rw [hix2, (kc ix hx).1, (kc ix hx).2.1, kh2 ix hx hne]
        exact hC ix hx
      · rw [sumN_congr (g := fun t => yq (52 + t)) (fun t ht => ydr_lo (by omega) (by omega)), sm1]
      · rw [sumN_congr (g := fun t => yq (76 + t)) (fun t ht => ydr_lo (by omega) (by omega)), sm2]
      · rw [ydr_lo (by omega) (by omega), ks.2]
      · rw [d3, if_pos (by omega)]
    · rw [if_neg cz, c2_eq]
      refine ⟨B3, yq, rfl, stq, fun i hi => ?_, sm1, sm2, ks.2, by rw [if_neg (by omega), k3]⟩
      rw [k3] at hi
      rw [(kc i hi).1, (kc i hi).2.1]
      refine ⟨(hC i hi).1, ?_⟩
      by_cases e : i = c
      · subst e; rw [kh]; omega
      · rw [kh2 i hi e]; exact (hC i hi).2
theorem ref_end {M : Mem} {P : PD} {E o y : Nat → Nat} (h : StB (M 0) P E o y) {D0 M0 : Nat} (e1 : sumN (fun t => y (52 + t)) (pn P) = D0) (e2 : sumN (fun t => y (76 + t)) (pn P) = M0) : FL_refunds_240 (nI (pn P)) (nI D0).toInt64 (nI M0) M = some (1, M) := by
  have a1 := l_dues h
  have a2 := n6 h
  rw [e1] at a1
  rw [e2] at a2
  unfold FL_refunds_240
  rw [a1, c1_eq, if_pos ((lg_cmp_eq _ _).mpr rfl), a2, c1_eq, if_pos rfl, l_times h, c2_eq, if_neg (show ¬ (1 : Int32) = 0 by decide)]
theorem ref_loop {P : PD} {E o : Nat → Nat} {D0 M0 : Nat} {g : Int32} : ∀ m k fuel M, 4 - k = m → k ≤ 4 → m < fuel → (∃ y, StB (M 0) P E o y ∧ CC y ∧ sumN (fun t => y (52 + t)) (pn P) = D0 ∧ sumN (fun t => y (76 + t)) (pn P) = M0) → HS M → ∃ M' : Mem, FL_refunds_17 fuel (nI (pn P)) g (nI D0).toInt64 (nI M0) (nI k) M = some (1, M') ∧ (∃ y, StB (M' 0) P E o y) ∧ HS M' := by
  intro m
  induction m with
  | zero =>
    intro kk fuel M hm hc hf hy hS
    obtain ⟨y, h, hC, e1, e2⟩ := hy
    obtain ⟨k, rfl⟩ : ∃ k, fuel = k + 1 := ⟨fuel - 1, by omega⟩
    refine ⟨M, ?_, ⟨y, h⟩, hS⟩
    show FL_refunds_17s _ _ _ _ _ _ _ = _
    unfold FL_refunds_17s
    rw [k4, le_nI (by decide) (by omega), if_pos (by omega), ref_end h e1 e2]
  | succ m ih =>
    intro kk fuel M hm hc hf hy hS
    obtain ⟨y, h, hC, e1, e2⟩ := hy
    have hn := h.n
    have hk := h.2.2.2.1
    obtain ⟨k, rfl⟩ : ∃ k, fuel = k + 1 := ⟨fuel - 1, by omega⟩
    show ∃ M', FL_refunds_17s (FL_refunds_17 k) _ _ _ _ _ _ = _ ∧ _
    unfold FL_refunds_17s
    rw [show (if (4 : Int32) ≤ nI kk then FL_refunds_240 (nI (pn P)) (nI D0).toInt64 (nI M0) M else _) = _ from if_neg (by rw [k4]; intro q; have q' := Int32.le_iff_toInt_le.mp q; rw [nI_toInt (by omega), nI_toInt (by omega)] at q'; omega), n1 h, c1_eq, if_nIle0 (by omega)]
    by_cases c0 : y 3 = 0
    · rw [if_pos c0, ref_end h e1 e2]
      exact ⟨M, rfl, ⟨y, h⟩, hS⟩
    · rw [if_neg c0, c1_eq]
      have z1 : 4 - (kk + 1) = m := by omega
      have z2 : kk + 1 ≤ 4 := by omega
      have z3 : m < k := by omega
      obtain ⟨c, hc1, hc2⟩ := l_low (g >>> (((4 : Int32) * nI kk) &&& 31)) (n := y 3) (by omega) (by omega)
      obtain ⟨r1, r2, r3, r4⟩ := r_ofC h hc1
      have hcc := hC c hc1
      obtain ⟨g1, g2, g3, g4⟩ := h.2.2.2.2.2.2.2 c hc1
      obtain ⟨v, hv1, hv2⟩ := l_low (g >>> (((3 : Int32) + ((4 : Int32) * nI kk)) &&& 31)) (n := y (276 + c)) (by omega) (by omega)
      obtain ⟨s, hs⟩ : ∃ s, y (196 + c) = s := ⟨_, rfl⟩
      obtain ⟨b, hb⟩ : ∃ b, y (236 + c) = b := ⟨_, rfl⟩
      obtain ⟨p, hp⟩ : ∃ p, y (316 + c) = p := ⟨_, rfl⟩
      obtain ⟨back, hbk⟩ : ∃ back, (1 + v) * p * y 1 / 100 = back := ⟨_, rfl⟩
      obtain ⟨refN, refY⟩ := b_refund h hC hc1 hs hb hp (x := 1 + v) (by omega) (by omega) hbk
      rw [hs] at r1 g1
      rw [hb] at r2 g2
      rw [hp] at r4 g4
      have hm2 : (1 + v) * p * y 1 ≤ 500 * 1000 * 100 := Nat.mul_le_mul (Nat.mul_le_mul (by omega) g4) h.2.1
      have hbb : back ≤ 500 * 1000 * 100 := by rw [← hbk]; exact Nat.le_trans (Nat.div_le_self _ _) hm2
      have ms : y (76 + s) ≤ 200000000 := Nat.le_trans (sumN_le (f := fun t => y (76 + t)) g1) h.2.2.2.2.2.1
      obtain ⟨-, -, eb3⟩ := h.Ele g2
      rw [hc2, c1_eq, r1, c1_eq, r2, c1_eq, r3, c1_eq, hv2, c1_eq, lt1_eq, show (1 : Int32) + nI v = nI (1 + v) from nI_add 1 v, r4, c1_eq, n10 h, c1_eq, lt1_eq, pk_mul, pk_mul, show (100 : Int32) = nI 100 from rfl, pk_div (by omega) (by omega) (by omega), hbk, r_money h g1, c1_eq, o7 h g2, c2_eq, n1 h, c1_eq]
      by_cases can : 1 + v ≤ y (52 + b) - E b ∧ back ≤ y (76 + s)
      · obtain ⟨B', y', q1, q2, q3, q4, q5, q6, q7⟩ := refY can
        obtain ⟨M1, m1, m2, -, m3, -⟩ := ch_step hS (fc := fun B => FX2_giveBack B (nI c) (nI (1 + v))) q1
        have m1' : FX5_refund M (nI c) (nI (1 + v)) = some (nI (y (276 + c) - (1 + v)), M1) := m1
        have h1 : StB (M1 0) P E o y' := by rw [m2]; exact q2
        obtain ⟨M2, i1, i2, i3⟩ := ih (kk + 1) k M1 z1 z2 z3 ⟨y', h1, q3, by rw [q4]; exact e1, by rw [q5]; exact e2⟩ m3
        refine ⟨M2, ?_, i2, i3⟩
        have n1' := n1 h1
        rw [q7] at n1'
        have mo1 := r_money h1 g1
        rw [q6] at mo1
        rw [m1', c2_eq, lt_nI (by omega) (by omega), if_neg (by omega), lt_nI (by omega) (by omega), if_neg (by omega)]
        unfold FL_refunds_167 FL_refunds_186
        rw [if_neg (show ¬ (1 : Int32) = 0 by decide), nI_sub (by omega), if_pos rfl, if_neg (show ¬ (1 : Int32) = 0 by decide), mo1, c1_eq, nI_sub can.2, if_pos rfl, n1', c1_eq, eq_nI (by omega) (by omega)]
        unfold FL_refunds_229
        by_cases cz : y (276 + c) = 1 + v
        · rw [if_pos cz, if_pos cz, nI_sub1 c0, if_pos rfl, lt1_eq, nI_1]
          exact i1
        · rw [if_neg cz, if_neg cz, if_pos rfl, lt1_eq, nI_1]
          exact i1
      · obtain ⟨M1, m1, m2, -, m3, -⟩ := ch_step hS (fc := fun B => FX2_giveBack B (nI c) (nI (1 + v))) (refN can)
        have m1' : FX5_refund M (nI c) (nI (1 + v)) = some (-5, M1) := m1
        have h1 : StB (M1 0) P E o y := by rw [m2]; exact h
        obtain ⟨M2, i1, i2, i3⟩ := ih (kk + 1) k M1 z1 z2 z3 ⟨y, h1, hC, e1, e2⟩ m3
        refine ⟨M2, ?_, i2, i3⟩
        have go : FL_refunds_166 (FL_refunds_17 k) (nI (pn P)) g (nI D0).toInt64 (nI M0) (nI kk) (nI s) (nI (y (276 + c))) (nI (1 + v)) (nI back) (nI (y (76 + s))) (nI (y 3)) (-5) M1 = some (1, M2) := by
          unfold FL_refunds_166 FL_refunds_167 FL_refunds_186
          rw [if_pos rfl, if_pos rfl, if_pos rfl, lt1_eq, nI_1]
          exact i1
        rw [m1', c2_eq, lt_nI (by omega) (by omega)]
        by_cases w : y (52 + b) - E b < 1 + v
        · rw [if_pos w]; exact go
        · rw [if_neg w, lt_nI (by omega) (by omega), if_pos (by omega)]
          exact go
theorem l_refunds {M : Mem} {P : PD} {E o y : Nat → Nat} (h : StB (M 0) P E o y) (hC : CC y) (hS : HS M) (g : Int32) : ∃ M' : Mem, FL_refunds M (nI (pn P)) g = some (1, M') ∧ (∃ y, StB (M' 0) P E o y) ∧ HS M' := by
  unfold FL_refunds
  rw [l_dues h, c1_eq, n6 h, c1_eq]
  exact ref_loop 4 0 fu M rfl (by omega) (fu_gt (by omega)) ⟨y, h, hC, rfl, rfl⟩ hS
