/-! refund, of the class and of the model -/
theorem p_hasC {B : Blk} {k : Nat} (hk : B 2 0 = nI k) (x : Int32) : (inT k x → FX0_has B x = some 1) ∧ (¬ inT k x → FX0_has B x = some 0) := by
  unfold FX0_has
  rw [hk]
  by_cases h1 : x < 0
  · exact ⟨fun h => absurd h1 (inT_dec.mp h).1, fun _ => by rw [if_pos h1]⟩
  · by_cases h2 : nI k ≤ x
    · exact ⟨fun h => absurd h2 (inT_dec.mp h).2, fun _ => by rw [if_neg h1, if_pos h2]⟩
    · exact ⟨fun _ => by rw [if_neg h1, if_neg h2], fun h => absurd (inT_dec.mpr ⟨h1, h2⟩) h⟩
theorem q_isContract {Z : Blk} {k : Nat} (hk : Z 1 3 = nI k) (x : Int32) : (inT k x → FX6_isContract Z x = some 1) ∧ (¬ inT k x → FX6_isContract Z x = some 0) := by
  unfold FX6_isContract
  rw [k3, ld_nI (by decide) (by decide), hk]
  by_cases h1 : x < 0
  · exact ⟨fun h => absurd h1 (inT_dec.mp h).1, fun _ => by rw [if_pos h1]⟩
  · by_cases h2 : nI k ≤ x
    · exact ⟨fun h => absurd h2 (inT_dec.mp h).2, fun _ => by rw [if_neg h1, if_pos h2]⟩
    · exact ⟨fun _ => by rw [if_neg h1, if_neg h2], fun h => absurd (inT_dec.mpr ⟨h1, h2⟩) h⟩
/-- the contracts change -/
theorem Rest_ctr {B B' : Blk} {z z' : Nat → Int32} {n k' : Nat} (h : Rest B z n) (hb : ∀ q, q = 0 ∨ (16 ≤ q ∧ q ≤ 19) → B' q = B q) (hz : ∀ k, k = 1 ∨ k = 2 ∨ (52 ≤ k ∧ k < 100) ∨ (124 ≤ k ∧ k < 172) → z' k = z k) (hn : n ≤ 24) (hk : k' ≤ 40) (h2 : B' 2 0 = nI k') (h3 : z' 3 = nI k')
    (hc : ∀ c, c < k' → (B' 12 c = z' (196 + c) ∧ B' 13 c = z' (236 + c) ∧ B' 14 c = z' (276 + c) ∧ B' 15 c = z' (316 + c)) ∧ (∃ s, s < n ∧ z' (196 + c) = nI s) ∧ ∃ b, b < n ∧ z' (236 + c) = nI b) : Rest B' z' n := by
  obtain ⟨⟨a1, a2, a3, a4⟩, b, ⟨du, d1, d2⟩, e, f, -⟩ := h
  refine ⟨⟨by rw [hb 0 (by omega), hz 1 (by omega)]; exact a1, by rw [hb 0 (by omega), hz 2 (by omega)]; exact a2, by rw [hz 1 (by omega)]; exact a3, by rw [hz 2 (by omega)]; exact a4⟩, fun t ht => ?_, ⟨du, fun t ht => by rw [hz _ (by omega)]; exact d1 t ht, d2⟩, fun t ht => by rw [hz _ (by omega)]; exact e t ht, fun t ht => by rw [hz _ (by omega)]; exact f t ht, k', hk, h2, h3, hc⟩
  rw [hb 16 (by omega), hb 17 (by omega), hb 18 (by omega), hb 19 (by omega), hz _ (by omega), hz _ (by omega), hz _ (by omega), hz _ (by omega)]
  exact b t ht
/-- hours go from one due time to another -/
theorem due2_rel {B : Blk} {z : Nat → Int32} {P : PD} {E o : Nat → Nat} (h : RelP B z P E o) {du : Nat → Nat} (hd : ∀ t, t < pn P → z (52 + t) = nI (du t)) (hs : sumN du (pn P) ≤ 3000 * pn P) {s b k : Nat} (hs2 : s < pn P) (hb : b < pn P) (hk : k ≤ du b) :
    RelP (bs (bs B 16 b (nI (du b - k))) 16 s (nI (u1 du b (du b - k) s + k))) (upd (upd z (52 + b) (nI (du b - k))) (52 + s) (nI (u1 du b (du b - k) s + k))) P E o := by
  have hn := h.n
  refine RelP_rest h (fun q hq => by rw [bs_o (by omega), bs_o (by omega)]) (fun q hq => by rw [upd_ne (by omega), upd_ne (by omega)]) ?_
  have hr := h.2.2.2.2.2.2.2
  refine Rest_tasks hr (fun q hq => by rw [bs_o (by omega), bs_o (by omega)]) (fun q hq => by rw [upd_ne (by omega), upd_ne (by omega)]) (fun u hu => ?_) ⟨u1 (u1 du b (du b - k)) s (u1 du b (du b - k) s + k), fun u hu => ?_, ?_⟩ (fun u hu => ?_) (fun u hu => ?_)
  · obtain ⟨g1, g2, g3, g4⟩ := hr.2.1 u hu
    refine ⟨?_, ?_, ?_, ?_⟩
    · rw [bs_r, upd_eq]
      by_cases c : u = s
      · rw [if_pos ⟨rfl, c⟩, if_pos (by omega)]
      · rw [if_neg (fun q => c q.2), if_neg (by omega), bs_r, upd_eq]
        by_cases c2 : u = b
        · rw [if_pos ⟨rfl, c2⟩, if_pos (by omega)]
        · rw [if_neg (fun q => c2 q.2), if_neg (by omega)]; exact g1
    · rw [bs_o (by omega), bs_o (by omega), upd_ne (by omega), upd_ne (by omega)]; exact g2
    · rw [bs_o (by omega), bs_o (by omega), upd_ne (by omega), upd_ne (by omega)]; exact g3
    · rw [bs_o (by omega), bs_o (by omega), upd_ne (by omega), upd_ne (by omega)]; exact g4
  · rw [upd_eq]
    by_cases c : u = s
    · rw [if_pos (by omega), c, u1_at]
    · rw [if_neg (by omega), u1_ne c, upd_eq]
      by_cases c2 : u = b
      · rw [if_pos (by omega), c2, u1_at]
      · rw [if_neg (by omega), u1_ne c2]; exact hd u hu
  · have e1 := sumN_up (f := du) (g := u1 du b (du b - k)) hb (fun t _ c => u1_ne c)
    have e2 := sumN_up (f := u1 du b (du b - k)) (g := u1 (u1 du b (du b - k)) s (u1 du b (du b - k) s + k)) hs2 (fun t _ c => u1_ne c)
    rw [u1_at] at e1 e2
    omega
  · rw [upd_ne (by omega), upd_ne (by omega)]; exact hr.2.2.2.1 u hu
  · rw [upd_ne (by omega), upd_ne (by omega)]; exact hr.2.2.2.2.1 u hu
def zdrop (z : Nat → Int32) (c i : Nat) : Nat → Int32 := fun x => if (196 + c ≤ x ∧ x < 196 + i) ∨ (236 + c ≤ x ∧ x < 236 + i) ∨ (276 + c ≤ x ∧ x < 276 + i) ∨ (316 + c ≤ x ∧ x < 316 + i) then z (x + 1) else z x
set_option maxRecDepth 100000 in
theorem q_drop {Z : Blk} {k c : Nat} (hk : Z 1 3 = nI k) (hk4 : k ≤ 40) (hc : c < k) : FX6_dropContract Z (nI c) = some (bc Z 1 (zdrop (upd (Z 1) 3 (nI (k - 1))) c (k - 1))) := by
  have key : ∀ d i fuel, c ≤ i → i + d = k - 1 → d < fuel → FX6_dropContract_12 fuel (nI i) (bc Z 1 (zdrop (upd (Z 1) 3 (nI (k - 1))) c i)) = some (bc Z 1 (zdrop (upd (Z 1) 3 (nI (k - 1))) c (k - 1))) := by
    intro d
    induction d with
    | zero =>
      intro i fuel hci hi hf
      obtain ⟨q, rfl⟩ : ∃ q, fuel = q + 1 := ⟨fuel - 1, by omega⟩
      have e : i = k - 1 := by omega
      subst e
      show FX6_dropContract_12s _ _ _ = _
      unfold FX6_dropContract_12s
      have e0 : bc Z 1 (zdrop (upd (Z 1) 3 (nI (k - 1))) c (k - 1)) 1 3 = nI (k - 1) := by
        rw [bc_at]; unfold zdrop; rw [if_neg (by omega), upd_at]
      rw [k3, ld_nI (by decide) (by decide), e0, le_nI (by omega) (by omega), if_pos (Nat.le_refl _)]
    | succ d ih =>
      intro i fuel hci hi hf
      obtain ⟨q, rfl⟩ : ∃ q, fuel = q + 1 := ⟨fuel - 1, by omega⟩
      show FX6_dropContract_12s _ _ _ = _
      unfold FX6_dropContract_12s
      obtain ⟨z, hz⟩ : ∃ z, upd (Z 1) 3 (nI (k - 1)) = z := ⟨_, rfl⟩
      rw [hz] at ih ⊢
      have e0 : bc Z 1 (zdrop z c i) 1 3 = nI (k - 1) := by
        rw [bc_at]; unfold zdrop; rw [if_neg (by omega), ← hz, upd_at]
      rw [k3, ld_nI (by decide) (by decide), e0, le_nI (by omega) (by omega), if_neg (by omega), k196, k236, k276, k316, nI_add, nI_add, nI_add, nI_add, k1, nI_add, nI_add, nI_add, nI_add, ld_nI (by omega) (by decide), stb_nI (by omega) (by decide), ld_nI (by omega) (by decide), stb_nI (by omega) (by decide), ld_nI (by omega) (by decide), stb_nI (by omega) (by decide), ld_nI (by omega) (by decide), stb_nI (by omega) (by decide), lt1_eq, nI_add, bs_bc, bc_at, bs_bc, bc_at, bs_bc, bc_at, bs_bc, bc_at]
      have e : upd (upd (upd (upd (zdrop z c i) (196 + i) (zdrop z c i (196 + i + 1))) (236 + i) (upd (zdrop z c i) (196 + i) (zdrop z c i (196 + i + 1)) (236 + i + 1))) (276 + i) (upd (upd (zdrop z c i) (196 + i) (zdrop z c i (196 + i + 1))) (236 + i) (upd (zdrop z c i) (196 + i) (zdrop z c i (196 + i + 1)) (236 + i + 1)) (276 + i + 1))) (316 + i) (upd (upd (upd (zdrop z c i) (196 + i) (zdrop z c i (196 + i + 1))) (236 + i) (upd (zdrop z c i) (196 + i) (zdrop z c i (196 + i + 1)) (236 + i + 1))) (276 + i) (upd (upd (zdrop z c i) (196 + i) (zdrop z c i (196 + i + 1))) (236 + i) (upd (zdrop z c i) (196 + i) (zdrop z c i (196 + i + 1)) (236 + i + 1)) (276 + i + 1)) (316 + i + 1)) = zdrop z c (i + 1) := by
        have v : ∀ j, 196 + i < j → (j < 236 + c ∨ 236 + i < j) → (j < 276 + c ∨ 276 + i < j) → (j < 316 + c ∨ 316 + i < j) → zdrop z c i j = z j := by
          intro j h1 h2 h3 h4
          unfold zdrop
          rw [if_neg (by omega)]
        rw [upd_ne (j := 236 + i + 1) (by omega), upd_ne (j := 276 + i + 1) (by omega), upd_ne (j := 276 + i + 1) (by omega), upd_ne (j := 316 + i + 1) (by omega), upd_ne (j := 316 + i + 1) (by omega), upd_ne (j := 316 + i + 1) (by omega)]
        rw [v (196 + i + 1) (by omega) (by omega) (by omega) (by omega), v (236 + i + 1) (by omega) (by omega) (by omega) (by omega), v (276 + i + 1) (by omega) (by omega) (by omega) (by omega), v (316 + i + 1) (by omega) (by omega) (by omega) (by omega)]
        funext x
        rw [upd_eq, upd_eq, upd_eq, upd_eq]
        by_cases c1 : x = 316 + i
        · rw [if_pos c1, c1]; unfold zdrop; rw [if_pos (by omega)]
        · rw [if_neg c1]
          by_cases c2 : x = 276 + i
          · rw [if_pos c2, c2]; unfold zdrop; rw [if_pos (by omega)]
          · rw [if_neg c2]
            by_cases c3 : x = 236 + i
            · rw [if_pos c3, c3]; unfold zdrop; rw [if_pos (by omega)]
            · rw [if_neg c3]
              by_cases c4 : x = 196 + i
              · rw [if_pos c4, c4]; unfold zdrop; rw [if_pos (by omega)]
              · rw [if_neg c4]
                unfold zdrop
                by_cases c5 : (196 + c ≤ x ∧ x < 196 + i) ∨ (236 + c ≤ x ∧ x < 236 + i) ∨ (276 + c ≤ x ∧ x < 276 + i) ∨ (316 + c ≤ x ∧ x < 316 + i)
                · rw [if_pos c5, if_pos (by omega)]
                · rw [if_neg c5, if_neg (by omega)]
      rw [e]
      exact ih (i + 1) q (by omega) (by omega) (by omega)
  unfold FX6_dropContract
  rw [k3, ld_nI (by decide) (by decide), hk, nI_sub1 (by omega), stb_nI (by decide) (by decide)]
  have := key (k - 1 - c) c fu (by omega) (by omega) (fu_gt (by omega))
  have e : zdrop (upd (Z 1) 3 (nI (k - 1))) c c = upd (Z 1) 3 (nI (k - 1)) := by
    funext x
    unfold zdrop
    rw [if_neg (by omega)]
  rw [e] at this
  rw [← this]
  congr 1
set_option maxRecDepth 100000 in
theorem p_remove {B : Blk} {k c : Nat} (hk : B 2 0 = nI k) (hk4 : k ≤ 40) (hc : c < k) : FX0_remove B (nI c) = some (bs (bc (bc (bc (bc B 12 (shU (B 12) c (k - 1))) 13 (shU (B 13) c (k - 1))) 14 (shU (B 14) c (k - 1))) 15 (shU (B 15) c (k - 1))) 2 0 (nI (k - 1))) := by
  have key : ∀ d i fuel, c ≤ i → i + d = k - 1 → d < fuel → FX0_remove_2 fuel (nI i) (bc (bc (bc (bc B 12 (shU (B 12) c i)) 13 (shU (B 13) c i)) 14 (shU (B 14) c i)) 15 (shU (B 15) c i)) = some (bs (bc (bc (bc (bc B 12 (shU (B 12) c (k - 1))) 13 (shU (B 13) c (k - 1))) 14 (shU (B 14) c (k - 1))) 15 (shU (B 15) c (k - 1))) 2 0 (nI (k - 1))) := by
    intro d
    induction d with
    | zero =>
      intro i fuel hci hi hf
      obtain ⟨q, rfl⟩ : ∃ q, fuel = q + 1 := ⟨fuel - 1, by omega⟩
      have e : i = k - 1 := by omega
      subst e
      show FX0_remove_2s _ _ _ = _
      unfold FX0_remove_2s
      rw [bc_ne (o' := 2) (by omega), bc_ne (o' := 2) (by omega), bc_ne (o' := 2) (by omega), bc_ne (o' := 2) (by omega), hk, k1, nI_add, le_nI (by omega) (by omega), if_pos (by omega), lt1_eq, ← k1, nI_sub1 (by omega)]
    | succ d ih =>
      intro i fuel hci hi hf
      obtain ⟨q, rfl⟩ : ∃ q, fuel = q + 1 := ⟨fuel - 1, by omega⟩
      show FX0_remove_2s _ _ _ = _
      unfold FX0_remove_2s
      have st : ∀ f : Nat → Int32, upd (shU f c i) i (shU f c i (i + 1)) = shU f c (i + 1) := by
        intro f
        funext x
        unfold upd shU
        by_cases c1 : x = i
        · rw [if_pos c1, if_neg (by omega), if_pos (by omega), c1]
        · rw [if_neg c1]
          by_cases c2 : c ≤ x ∧ x < i
          · rw [if_pos c2, if_pos (by omega)]
          · rw [if_neg c2, if_neg (by omega)]
      rw [bc_ne (o' := 2) (by omega), bc_ne (o' := 2) (by omega), bc_ne (o' := 2) (by omega), bc_ne (o' := 2) (by omega), hk, k1, nI_add, le_nI (by omega) (by omega), if_neg (by omega), ld_nI (by omega) (by decide), stb_nI (by omega) (by decide), ld_nI (by omega) (by decide), stb_nI (by omega) (by decide), ld_nI (by omega) (by decide), stb_nI (by omega) (by decide), ld_nI (by omega) (by decide), stb_nI (by omega) (by decide), lt1_eq]
      obtain ⟨B1, hB1⟩ : ∃ B1, (bc (bc (bc (bc B 12 (shU (B 12) c i)) 13 (shU (B 13) c i)) 14 (shU (B 14) c i)) 15 (shU (B 15) c i)) = B1 := ⟨_, rfl⟩
      have q12 : B1 12 = shU (B 12) c i := by rw [← hB1, bc_ne (by omega), bc_ne (by omega), bc_ne (by omega), bc_at]
      have q13 : B1 13 = shU (B 13) c i := by rw [← hB1, bc_ne (by omega), bc_ne (by omega), bc_at]
      have q14 : B1 14 = shU (B 14) c i := by rw [← hB1, bc_ne (by omega), bc_at]
      have q15 : B1 15 = shU (B 15) c i := by rw [← hB1, bc_at]
      rw [hB1, bs_o (o' := 13) (by omega), bs_o (o' := 14) (by omega), bs_o (o' := 14) (by omega), bs_o (o' := 15) (by omega), bs_o (o' := 15) (by omega), bs_o (o' := 15) (by omega), q12, q13, q14, q15]
      have e : bs (bs (bs (bs B1 12 i (shU (B 12) c i (i + 1))) 13 i (shU (B 13) c i (i + 1))) 14 i (shU (B 14) c i (i + 1))) 15 i (shU (B 15) c i (i + 1)) = bc (bc (bc (bc B 12 (shU (B 12) c (i + 1))) 13 (shU (B 13) c (i + 1))) 14 (shU (B 14) c (i + 1))) 15 (shU (B 15) c (i + 1)) := by
        funext o
        by_cases c15 : o = 15
        · subst c15
          rw [b1_eq, bs_o (by omega), bs_o (by omega), bs_o (by omega), q15, st, bc_at]
        · rw [bs_o c15, bc_ne c15]
          by_cases c14 : o = 14
          · subst c14
            rw [b1_eq, bs_o (by omega), bs_o (by omega), q14, st, bc_at]
          · rw [bs_o c14, bc_ne c14]
            by_cases c13 : o = 13
            · subst c13
              rw [b1_eq, bs_o (by omega), q13, st, bc_at]
            · rw [bs_o c13, bc_ne c13]
              by_cases c12 : o = 12
              · subst c12
                rw [b1_eq, q12, st, bc_at]
              · rw [bs_o c12, bc_ne c12, ← hB1, bc_ne c15, bc_ne c14, bc_ne c13, bc_ne c12]
      rw [e]
      exact ih (i + 1) q (by omega) (by omega) (by omega)
  unfold FX0_remove
  have e0 : ∀ f : Nat → Int32, shU f c c = f := fun f => by
    funext x
    unfold shU
    rw [if_neg (by omega)]
  have := key (k - 1 - c) c fu (by omega) (by omega) (fu_gt (by omega))
  rw [e0, e0, e0, e0] at this
  have e : bc (bc (bc (bc B 12 (B 12)) 13 (B 13)) 14 (B 14)) 15 (B 15) = B := by
    rw [bc_self]
    rw [bc_self]
    rw [bc_self]
    rw [bc_self]
  rw [e] at this
  exact this
