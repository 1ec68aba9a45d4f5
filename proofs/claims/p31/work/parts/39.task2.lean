/-! task, of the class and of the model -/
theorem cin4 {α : Type} {x : Int32} {X Y : α} : (if x < 0 then X else if 4 ≤ x then X else Y) = if 0 ≤ x ∧ x ≤ 3 then Y else X := by
  have e : (4 ≤ x) ↔ ¬ x ≤ 3 := by
    rw [Int32.le_iff_toInt_le, Int32.le_iff_toInt_le, show (4 : Int32).toInt = 4 from rfl, show (3 : Int32).toInt = 3 from rfl]
    omega
  by_cases h1 : x < 0
  · rw [if_pos h1, if_neg (fun q => absurd q.1 (Int32.not_le.mpr h1))]
  · by_cases h2 : x ≤ 3
    · rw [if_neg h1, if_neg (fun q => e.mp q h2), if_pos ⟨Int32.not_lt.mp h1, h2⟩]
    · rw [if_neg h1, if_pos (e.mpr h2), if_neg (fun q => h2 q.2)]
def OpGoal (B Z : Blk) (x y : Option (Int32 × Blk)) : Prop := ∃ (r : Int32) (B' Z' : Blk), x = some (r, B') ∧ y = some (r, Z') ∧ Rel B' (Z' 1) ∧ Keep Z Z' ∧ ((r < 0 ∧ Z' 0 = Z 0 ∧ Z' 2 = Z 2) ∨ (¬ r < 0 ∧ ∃ z0, Rel B z0 ∧ Pushed Z Z' z0))
set_option maxRecDepth 100000 in
theorem task_ok {B Z : Blk} {P : PD} {E o : Nat → Nat} (h : RelP B (Z 1) P E o) (hq : QH Z) {m d due a k : Nat} {c : Int32} (hm : m < 4) (ha : a < pn P ∨ a = 99) (hd0 : 1 ≤ d) (hd : d ≤ 100) (hdue : due ≤ 3000) (hn : pn P < 24) {x y : Option (Int32 × Blk)}
    (hx : x = (stb B 16 24 (nI (pn P)) (nI due) fun B13 => stb B13 17 24 (nI (pn P)) c fun B16 => stb B16 18 24 (nI (pn P)) 0 fun B19 => stb B19 19 24 (nI (pn P)) 0 fun B22 => c1 (FX4_append B22 (nI m) (nI d) (aI a)) fun B27 => c2 (FX4_schedule B27) fun r28 B30 => some (nI (pn P), B30)))
    (hy : y = (c1 (FX6_record Z) fun B20 => ld (B20 1) 356 0 fun v21 => c1 (FX6_manyOn B20 (nI m)) fun r24 => ld (B20 1) 356 0 fun v26 => stb B20 1 356 0 (v26 + 1) fun B29 => stb B29 1 356 (4 + v21) (nI m) fun B32 => stb B32 1 356 (28 + v21) (nI d) fun B35 => stb B35 1 356 (52 + v21) (nI due) fun B38 => stb B38 1 356 (76 + v21) c fun B41 => stb B41 1 356 (100 + v21) (aI a) fun B44 => stb B44 1 356 (124 + v21) 0 fun B47 => stb B47 1 356 (148 + v21) 0 fun B50 => stb B50 1 356 (172 + v21) r24 fun B53 => some (v21, B53))) : OpGoal B Z x y := by
  obtain ⟨ZR, hR, hp2, hk2⟩ := q_record hq
  have hZ1 : ZR 1 = Z 1 := hk2 1 (by decide) (by decide)
  have hB := h.2.2.1
  have hP := h.1
  have hc := cn_le hP m
  have hc2 : cn P m ≤ pn P := cnt_le _ _ _
  obtain ⟨Bx, hBx⟩ : ∃ Bx, bs (bs (bs (bs B 16 (pn P) (nI due)) 17 (pn P) c) 18 (pn P) 0) 19 (pn P) 0 = Bx := ⟨_, rfl⟩
  have hfx : ∀ q, q < 16 → Bx q = B q := by
    intro q hq
    rw [← hBx]
    (repeat (first | rw [bs_o (by omega)] | rw [bs_kk] | rw [bs_kn (by omega)]))
  have hBpl : BPl Bx P := by
    unfold BPl
    rw [hfx 1 (by omega), hfx 3 (by omega), hfx 4 (by omega), hfx 5 (by omega), hfx 8 (by omega), hfx 9 (by omega)]
    exact hB
  have hB9 : B 9 m = nI (cn P m) := hB.2.2.1 m hm
  obtain ⟨By, hBy⟩ : ∃ By, bs (bs (bs (bs (bs (bs Bx 3 (pn P) (nI m)) 4 (pn P) (nI d)) 5 (pn P) (aI a)) 8 (m * 24 + cn P m) (nI (pn P))) 9 m (nI (cn P m + 1))) 1 0 (nI (pn P + 1)) = By := ⟨_, rfl⟩
  have happ : FX4_append Bx (nI m) (nI d) (aI a) = some By := by
    unfold FX4_append
    rw [hfx 1 (by omega), hB.1, lt1_eq, k24, lt_nI (by omega) (by decide), if_pos hn, stb_nI (by omega) (by decide), stb_nI (by omega) (by decide), stb_nI (by omega) (by decide), ld_nI (by omega) (by decide)]
    have e9 : bs (bs (bs Bx 3 (pn P) (nI m)) 4 (pn P) (nI d)) 5 (pn P) (aI a) 9 m = nI (cn P m) := by
      (repeat (first | rw [bs_o (by omega)] | rw [bs_kk] | rw [bs_kn (by omega)]))
      rw [hfx 9 (by omega)]; exact hB9
    rw [e9, pk_mul, nI_add, stb_nI (by omega) (by decide), ld_nI (by omega) (by decide)]
    have e9' : bs (bs (bs (bs Bx 3 (pn P) (nI m)) 4 (pn P) (nI d)) 5 (pn P) (aI a)) 8 (m * 24 + cn P m) (nI (pn P)) 9 m = nI (cn P m) := by
      (repeat (first | rw [bs_o (by omega)] | rw [bs_kk] | rw [bs_kn (by omega)]))
      rw [hfx 9 (by omega)]; exact hB9
    rw [e9', stb_nI (by omega) (by decide), lt1_eq, k1, nI_add]
    have e1 : bs (bs (bs (bs (bs Bx 3 (pn P) (nI m)) 4 (pn P) (nI d)) 5 (pn P) (aI a)) 8 (m * 24 + cn P m) (nI (pn P))) 9 m (nI (cn P m + 1)) 1 0 = nI (pn P) := by
      (repeat (first | rw [bs_o (by omega)] | rw [bs_kk] | rw [bs_kn (by omega)]))
      rw [hfx 1 (by omega)]; exact hB.1
    rw [e1, nI_add, hBy]
  obtain ⟨zy, hzy⟩ : ∃ zy, upd (upd (upd (upd (upd (upd (upd (upd (upd (Z 1) 0 (nI (pn P + 1))) (4 + pn P) (nI m)) (28 + pn P) (nI d)) (52 + pn P) (nI due)) (76 + pn P) c) (100 + pn P) (aI a)) (124 + pn P) (nI 0)) (148 + pn P) (nI 0)) (172 + pn P) (nI (cn P m)) = zy := ⟨_, rfl⟩
  have hzz : ZPl zy (tk P m d a) := by
    refine tk_z h.2.1 ?_ (fun t ht => ⟨?_, ?_, ?_, ?_⟩) ⟨?_, ?_, ?_, ?_⟩ <;> rw [← hzy] <;> (repeat (first | rw [upd_ne (by omega)] | rw [upd_at]))
  have hrest : Rest By zy (pn P + 1) := by
    refine tk_rest (due := due) (mo := c) h.2.2.2.2.2.2.2 hdue (fun q hq => ?_) (fun q hq => ?_) (fun t ht => ⟨⟨?_, ?_, ?_, ?_⟩, ?_, ?_, ?_, ?_⟩) ⟨⟨?_, ?_, ?_, ?_⟩, ?_, ?_, ?_, ?_⟩
    · rw [← hBy, ← hBx]
      rcases hq with rfl | rfl | hq <;> (repeat (first | rw [bs_o (by omega)] | rw [bs_kk] | rw [bs_kn (by omega)]))
    · rw [← hzy]; (repeat (first | rw [upd_ne (by omega)] | rw [upd_at]))
    · rw [← hBy, ← hBx]; (repeat (first | rw [bs_o (by omega)] | rw [bs_kk] | rw [bs_kn (by omega)]))
    · rw [← hBy, ← hBx]; (repeat (first | rw [bs_o (by omega)] | rw [bs_kk] | rw [bs_kn (by omega)]))
    · rw [← hBy, ← hBx]; (repeat (first | rw [bs_o (by omega)] | rw [bs_kk] | rw [bs_kn (by omega)]))
    · rw [← hBy, ← hBx]; (repeat (first | rw [bs_o (by omega)] | rw [bs_kk] | rw [bs_kn (by omega)]))
    · rw [← hzy]; (repeat (first | rw [upd_ne (by omega)] | rw [upd_at]))
    · rw [← hzy]; (repeat (first | rw [upd_ne (by omega)] | rw [upd_at]))
    · rw [← hzy]; (repeat (first | rw [upd_ne (by omega)] | rw [upd_at]))
    · rw [← hzy]; (repeat (first | rw [upd_ne (by omega)] | rw [upd_at]))
    · rw [← hBy, ← hBx]; (repeat (first | rw [bs_o (by omega)] | rw [bs_kk] | rw [bs_kn (by omega)]))
    · rw [← hBy, ← hBx]; (repeat (first | rw [bs_o (by omega)] | rw [bs_kk] | rw [bs_kn (by omega)]))
    · rw [← hBy, ← hBx]; (repeat (first | rw [bs_o (by omega)] | rw [bs_kk] | rw [bs_kn (by omega)])); rfl
    · rw [← hBy, ← hBx]; (repeat (first | rw [bs_o (by omega)] | rw [bs_kk] | rw [bs_kn (by omega)])); rfl
    · rw [← hzy]; (repeat (first | rw [upd_ne (by omega)] | rw [upd_at]))
    · rw [← hzy]; (repeat (first | rw [upd_ne (by omega)] | rw [upd_at]))
    · rw [← hzy]; (repeat (first | rw [upd_ne (by omega)] | rw [upd_at]))
    · rw [← hzy]; (repeat (first | rw [upd_ne (by omega)] | rw [upd_at]))
  have hrank : Rank P E := ends_rank hP (fun u hu => (hP.2.1 u hu).2.1) h.2.2.2.1
  obtain ⟨B', f1, f2, E', od', f3⟩ := sched_ok (tk_pln hP hn hm hd0 hd ha) (by rw [← hBy]; exact tk_b hP hBpl hn hm) (tk_rank hP hn hm hd0 hd ha hrank (fun t ht => h.E_le ht)) hzz hrest
  refine MOp_ok ⟨P, E, o, h⟩ hp2 hk2 (Z' := bc ZR 1 zy) ?_ (r := nI (pn P)) (B' := B') (nneg (by omega)) ⟨tk P m d a, E', od', ?_⟩ ?_ ?_
  · exact ⟨bc_ne (by omega), bc_ne (by omega), bc_ne (by omega), bc_ne (by omega), bc_ne (by omega), bc_ne (by omega)⟩
  · rw [bc_at]
    exact f3
  · rw [hx, stb_nI (by omega) (by decide), stb_nI (by omega) (by decide), stb_nI (by omega) (by decide), stb_nI (by omega) (by decide), hBx, happ, c1_eq, f1, c2_eq]
  · rw [hy, hR, c1_eq, k0, ld_nI (f := ZR 1) (by decide) (by decide), hZ1, h.2.1.1, q_manyOn hP (by rw [hZ1]; exact h.2.1) (by omega), c1_eq, ld_nI (f := Z 1) (by decide) (by decide), h.2.1.1, k1, nI_add, k4, k28, k52, k76, k100, k124, k148, k172, nI_add, nI_add, nI_add, nI_add, nI_add, nI_add, nI_add, nI_add, stb_nI (by omega) (by decide), stb_nI (by omega) (by decide), stb_nI (by omega) (by decide), stb_nI (by omega) (by decide), stb_nI (by omega) (by decide), stb_nI (by omega) (by decide), stb_nI (by omega) (by decide), stb_nI (by omega) (by decide), stb_nI (by omega) (by decide)]
    have e : bs (bs (bs (bs (bs (bs (bs (bs (bs ZR 1 0 (nI (pn P + 1))) 1 (4 + pn P) (nI m)) 1 (28 + pn P) (nI d)) 1 (52 + pn P) (nI due)) 1 (76 + pn P) c) 1 (100 + pn P) (aI a)) 1 (124 + pn P) (nI 0)) 1 (148 + pn P) (nI 0)) 1 (172 + pn P) (nI (cn P m)) = bc ZR 1 zy := by
      rw [← bc_self ZR 1, bs_bc, bs_bc, bs_bc, bs_bc, bs_bc, bs_bc, bs_bc, bs_bc, bs_bc, hZ1, hzy, ← hZ1, bc_self]
    rw [e]
theorem m_task (a1 a2 a3 a4 a5 : Int32) : MOp (fun B => FX2_addTask B a1 a2 a3 a4 a5) (fun Z => FX6_task Z a1 a2 a3 a4 a5) := by
  intro B Z h hi hq
  show OpGoal B Z (FX2_addTask B a1 a2 a3 a4 a5) (FX6_task Z a1 a2 a3 a4 a5)
  have h0 := h
  obtain ⟨P, E, o, hRP⟩ := h
  have hn := hRP.n
  have hB := hRP.2.2.1.1
  have hz := hRP.2.1.1
  unfold FX2_addTask FX6_task
  rw [cin4, q_in, c1_eq, ite_bool]
  by_cases d0 : 0 ≤ a1 ∧ a1 ≤ 3
  · rw [if_pos d0, if_pos d0]
    have core : ∀ a, (a < pn P ∨ a = 99) → a5 = aI a → OpGoal B Z (FX2_addTask_30 a1 a2 a3 a4 a5 B) (FX6_task_27 a1 a2 a3 a4 a5 Z) := by
      intro a ha ea
      unfold FX2_addTask_30 FX6_task_27
      rw [cin1, cin1, cin2, q_in, c1_eq, ite_bool, q_in, c1_eq, ite_bool, q_in, c1_eq, ite_bool]
      by_cases d1 : 1 ≤ a2 ∧ a2 ≤ 100
      · rw [if_pos d1, if_pos d1]
        by_cases d2 : 0 ≤ a3 ∧ a3 ≤ 3000
        · rw [if_pos d2, if_pos d2]
          by_cases d3 : 0 ≤ a4 ∧ a4 ≤ 100000
          · rw [if_pos d3, if_pos d3, hB, lt1_eq, k0, ld_nI (by decide) (by decide), hz, k24, lt_nI (by omega) (by decide), eq_nI (by omega) (by decide)]
            by_cases d4 : pn P < 24
            · rw [if_pos d4, if_neg (by omega)]
              obtain ⟨m, -, hm, rfl⟩ := nI_btw (a := 0) (b := 3) (by decide) d0.1 d0.2 (by decide)
              obtain ⟨d, hd0, hd, rfl⟩ := nI_btw (a := 1) (b := 100) (by decide) d1.1 d1.2 (by decide)
              obtain ⟨due, -, hdue, rfl⟩ := nI_btw (a := 0) (b := 3000) (by decide) d2.1 d2.2 (by decide)
              subst ea
              exact task_ok (k := 0) hRP hq (by omega) ha hd0 hd hdue d4 rfl rfl
            · rw [if_neg d4, if_pos (by omega)]
              exact MOp_err h0 (by decide) rfl rfl
          · rw [if_neg d3, if_neg d3]
            exact MOp_err h0 (by decide) rfl rfl
        · rw [if_neg d2, if_neg d2]
          exact MOp_err h0 (by decide) rfl rfl
      · rw [if_neg d1, if_neg d1]
        exact MOp_err h0 (by decide) rfl rfl
    by_cases e5 : a5 = -6
    · rw [if_pos e5, if_pos e5]
      exact core 99 (Or.inr rfl) e5
    · rw [if_neg e5, if_neg e5]
      by_cases d5 : inT (pn P) a5
      · rw [(p_has hB a5).1 d5, (q_isTask hz a5).1 d5, c1_eq, c1_eq, if_neg (show ¬ (1 : Int32) = 0 by decide), if_neg (show ¬ (1 : Int32) = 0 by decide)]
        obtain ⟨a, ha, ea⟩ := inT_of d5 (by omega)
        exact core a (Or.inl ha) (by rw [ea, aI_lt (by omega)])
      · rw [(p_has hB a5).2 d5, (q_isTask hz a5).2 d5]
        exact MOp_err h0 (by decide) rfl rfl
  · rw [if_neg d0, if_neg d0]
    exact MOp_err h0 (by decide) rfl rfl
