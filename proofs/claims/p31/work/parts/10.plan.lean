theorem dX4_copyFrom_0 : decode cX4_copyFrom 0 = .ok (.aload_n 0, 1) := by decide +kernel
theorem dX4_copyFrom_1 : decode cX4_copyFrom 1 = .ok (.aload_n 1, 1) := by decide +kernel
theorem dX4_copyFrom_2 : decode cX4_copyFrom 2 = .ok (.getfield 39, 3) := by decide +kernel
theorem dX4_copyFrom_5 : decode cX4_copyFrom 5 = .ok (.putfield 39, 3) := by decide +kernel
theorem dX4_copyFrom_8 : decode cX4_copyFrom 8 = .ok (.aload_n 1, 1) := by decide +kernel
theorem dX4_copyFrom_9 : decode cX4_copyFrom 9 = .ok (.getfield 9, 3) := by decide +kernel
theorem dX4_copyFrom_12 : decode cX4_copyFrom 12 = .ok (.iconst 0, 1) := by decide +kernel
theorem dX4_copyFrom_13 : decode cX4_copyFrom 13 = .ok (.aload_n 0, 1) := by decide +kernel
theorem dX4_copyFrom_14 : decode cX4_copyFrom 14 = .ok (.getfield 9, 3) := by decide +kernel
theorem dX4_copyFrom_17 : decode cX4_copyFrom 17 = .ok (.iconst 0, 1) := by decide +kernel
theorem dX4_copyFrom_18 : decode cX4_copyFrom 18 = .ok (.bipush 24, 2) := by decide +kernel
theorem dX4_copyFrom_20 : decode cX4_copyFrom 20 = .ok (.invokestatic 43, 3) := by decide +kernel
theorem dX4_copyFrom_23 : decode cX4_copyFrom 23 = .ok (.aload_n 1, 1) := by decide +kernel
theorem dX4_copyFrom_24 : decode cX4_copyFrom 24 = .ok (.getfield 15, 3) := by decide +kernel
theorem dX4_copyFrom_27 : decode cX4_copyFrom 27 = .ok (.iconst 0, 1) := by decide +kernel
theorem dX4_copyFrom_28 : decode cX4_copyFrom 28 = .ok (.aload_n 0, 1) := by decide +kernel
theorem dX4_copyFrom_29 : decode cX4_copyFrom 29 = .ok (.getfield 15, 3) := by decide +kernel
theorem dX4_copyFrom_32 : decode cX4_copyFrom 32 = .ok (.iconst 0, 1) := by decide +kernel
theorem dX4_copyFrom_33 : decode cX4_copyFrom 33 = .ok (.bipush 24, 2) := by decide +kernel
theorem dX4_copyFrom_35 : decode cX4_copyFrom 35 = .ok (.invokestatic 43, 3) := by decide +kernel
theorem dX4_copyFrom_38 : decode cX4_copyFrom 38 = .ok (.aload_n 1, 1) := by decide +kernel
theorem dX4_copyFrom_39 : decode cX4_copyFrom 39 = .ok (.getfield 18, 3) := by decide +kernel
theorem dX4_copyFrom_42 : decode cX4_copyFrom 42 = .ok (.iconst 0, 1) := by decide +kernel
theorem dX4_copyFrom_43 : decode cX4_copyFrom 43 = .ok (.aload_n 0, 1) := by decide +kernel
theorem dX4_copyFrom_44 : decode cX4_copyFrom 44 = .ok (.getfield 18, 3) := by decide +kernel
theorem dX4_copyFrom_47 : decode cX4_copyFrom 47 = .ok (.iconst 0, 1) := by decide +kernel
theorem dX4_copyFrom_48 : decode cX4_copyFrom 48 = .ok (.bipush 24, 2) := by decide +kernel
theorem dX4_copyFrom_50 : decode cX4_copyFrom 50 = .ok (.invokestatic 43, 3) := by decide +kernel
theorem dX4_copyFrom_53 : decode cX4_copyFrom 53 = .ok (.aload_n 1, 1) := by decide +kernel
theorem dX4_copyFrom_54 : decode cX4_copyFrom 54 = .ok (.getfield 21, 3) := by decide +kernel
theorem dX4_copyFrom_57 : decode cX4_copyFrom 57 = .ok (.iconst 0, 1) := by decide +kernel
theorem dX4_copyFrom_58 : decode cX4_copyFrom 58 = .ok (.aload_n 0, 1) := by decide +kernel
theorem dX4_copyFrom_59 : decode cX4_copyFrom 59 = .ok (.getfield 21, 3) := by decide +kernel
theorem dX4_copyFrom_62 : decode cX4_copyFrom 62 = .ok (.iconst 0, 1) := by decide +kernel
theorem dX4_copyFrom_63 : decode cX4_copyFrom 63 = .ok (.bipush 24, 2) := by decide +kernel
theorem dX4_copyFrom_65 : decode cX4_copyFrom 65 = .ok (.invokestatic 43, 3) := by decide +kernel
theorem dX4_copyFrom_68 : decode cX4_copyFrom 68 = .ok (.aload_n 1, 1) := by decide +kernel
theorem dX4_copyFrom_69 : decode cX4_copyFrom 69 = .ok (.getfield 24, 3) := by decide +kernel
theorem dX4_copyFrom_72 : decode cX4_copyFrom 72 = .ok (.iconst 0, 1) := by decide +kernel
theorem dX4_copyFrom_73 : decode cX4_copyFrom 73 = .ok (.aload_n 0, 1) := by decide +kernel
theorem dX4_copyFrom_74 : decode cX4_copyFrom 74 = .ok (.getfield 24, 3) := by decide +kernel
theorem dX4_copyFrom_77 : decode cX4_copyFrom 77 = .ok (.iconst 0, 1) := by decide +kernel
theorem dX4_copyFrom_78 : decode cX4_copyFrom 78 = .ok (.bipush 24, 2) := by decide +kernel
theorem dX4_copyFrom_80 : decode cX4_copyFrom 80 = .ok (.invokestatic 43, 3) := by decide +kernel
theorem dX4_copyFrom_83 : decode cX4_copyFrom 83 = .ok (.aload_n 1, 1) := by decide +kernel
theorem dX4_copyFrom_84 : decode cX4_copyFrom 84 = .ok (.getfield 27, 3) := by decide +kernel
theorem dX4_copyFrom_87 : decode cX4_copyFrom 87 = .ok (.iconst 0, 1) := by decide +kernel
theorem dX4_copyFrom_88 : decode cX4_copyFrom 88 = .ok (.aload_n 0, 1) := by decide +kernel
theorem dX4_copyFrom_89 : decode cX4_copyFrom 89 = .ok (.getfield 27, 3) := by decide +kernel
theorem dX4_copyFrom_92 : decode cX4_copyFrom 92 = .ok (.iconst 0, 1) := by decide +kernel
theorem dX4_copyFrom_93 : decode cX4_copyFrom 93 = .ok (.bipush 96, 2) := by decide +kernel
theorem dX4_copyFrom_95 : decode cX4_copyFrom 95 = .ok (.invokestatic 43, 3) := by decide +kernel
theorem dX4_copyFrom_98 : decode cX4_copyFrom 98 = .ok (.aload_n 1, 1) := by decide +kernel
theorem dX4_copyFrom_99 : decode cX4_copyFrom 99 = .ok (.getfield 30, 3) := by decide +kernel
theorem dX4_copyFrom_102 : decode cX4_copyFrom 102 = .ok (.iconst 0, 1) := by decide +kernel
theorem dX4_copyFrom_103 : decode cX4_copyFrom 103 = .ok (.aload_n 0, 1) := by decide +kernel
theorem dX4_copyFrom_104 : decode cX4_copyFrom 104 = .ok (.getfield 30, 3) := by decide +kernel
theorem dX4_copyFrom_107 : decode cX4_copyFrom 107 = .ok (.iconst 0, 1) := by decide +kernel
theorem dX4_copyFrom_108 : decode cX4_copyFrom 108 = .ok (.iconst 4, 1) := by decide +kernel
theorem dX4_copyFrom_109 : decode cX4_copyFrom 109 = .ok (.invokestatic 43, 3) := by decide +kernel
theorem dX4_copyFrom_112 : decode cX4_copyFrom 112 = .ok (.return_, 1) := by decide +kernel
theorem okX4_copyFrom : CalOK yX4_copyFrom cX4_copyFrom 2 (none) 1 := ⟨wd_18, wd_223, by decide +kernel⟩
theorem ovX4_copyFrom : VirOK yX4_copyFrom := ⟨wd_221, wd_222⟩
def FX4_copyFrom (B : Blk) (Bo : Blk) : Option Blk :=
  lt1 (bs B 1 0 ((Bo 1) 0)) fun B1 =>
  lt1 (bc B1 3 (va_cpy (Bo 3) (B1 3) 0 0 24)) fun B3 =>
  lt1 (bc B3 4 (va_cpy (Bo 4) (B3 4) 0 0 24)) fun B5 =>
  lt1 (bc B5 5 (va_cpy (Bo 5) (B5 5) 0 0 24)) fun B7 =>
  lt1 (bc B7 6 (va_cpy (Bo 6) (B7 6) 0 0 24)) fun B9 =>
  lt1 (bc B9 7 (va_cpy (Bo 7) (B9 7) 0 0 24)) fun B11 =>
  lt1 (bc B11 8 (va_cpy (Bo 8) (B11 8) 0 0 96)) fun B13 =>
  lt1 (bc B13 9 (va_cpy (Bo 9) (B13 9) 0 0 4)) fun B15 =>
  some B15
set_option maxRecDepth 100000 in
set_option maxHeartbeats 4000000 in
theorem wX4_copyFrom {E : WE} {V : VT} {A : Nat → Prop} {H0 : Heap} {M : Mem} {j : Nat} (hj : j < 11) {o : Nat} (ho : o < 11) (hoj : o ≠ j) (Cx : CX E RX4 cX4_copyFrom 2 1 60) {B' : Blk} (hret : RetV E V A H0 cX4_copyFrom (jb M j B')) {Bo : Blk} (hBo : Bo = M o) {H : Heap} {locs : List Loc} {ls : Array Slot} {B : Blk} (hW : Wd V A H0 (jb M j B) (eS E) H locs) (hl : lv_has ls 2 [(0, .ref (vA V j 1)), (1, .ref (vA V o 1))]) (hF : FX4_copyFrom B Bo = some B') : Wq E H locs 0 ls [] := by
  unfold FX4_copyFrom at hF
  refine q_aload_n Cx dX4_copyFrom_0 rfl (lv_at hl 0 rfl) ?_
  refine q_aload_n Cx dX4_copyFrom_1 rfl (lv_at hl 1 rfl) ?_
  refine q_get (v := .int ((Bo 1) 0)) Cx hW (oP ho) ic4 0 (by decide) (by rw [jb_ne hoj, ← hBo]; rfl) wd_44 dX4_copyFrom_2 ?_
  obtain ⟨B1, e2, hF⟩ := lt1_some hF
  refine qb_put Cx hW (oP hj) ic4 0 (by decide) (Nat.le_of_ble_eq_true rfl) e2 rfl rfl ⟨nI32 _, rfl⟩ wd_44 dX4_copyFrom_5 (fun H locs hW => ?_)
  refine q_aload_n Cx dX4_copyFrom_8 rfl (lv_at hl 1 rfl) ?_
  refine q_get (v := .ref (vA V o 3)) Cx hW (oP ho) ic4 1 (by decide) rfl wd_46 dX4_copyFrom_9 ?_
  refine q_iconst (v := (0 : Int32)) Cx dX4_copyFrom_12 (by decide) ?_
  refine q_aload_n Cx dX4_copyFrom_13 rfl (lv_at hl 0 rfl) ?_
  refine q_get (v := .ref (vA V j 3)) Cx hW (oP hj) ic4 1 (by decide) rfl wd_46 dX4_copyFrom_14 ?_
  refine q_iconst (v := (0 : Int32)) Cx dX4_copyFrom_17 (by decide) ?_
  refine q_bipush (v := (24 : Int32)) Cx dX4_copyFrom_18 (by decide) ?_
  obtain ⟨B3, e4, hF⟩ := lt1_some hF
  refine qb_copy (cnt := (24 : Int32)) (B' := B3) Cx hW (ai_3 ho) (ai_3 hj) hoj (by decide) (by decide) (by decide) (by rw [e4, hBo]; rfl) wd_224 wd_226 wd_225 wd_22 hl.1 (by decide) (Nat.le_of_ble_eq_true rfl) dX4_copyFrom_20 (fun H locs hW => ?_)
  refine q_aload_n Cx dX4_copyFrom_23 rfl (lv_at hl 1 rfl) ?_
  refine q_get (v := .ref (vA V o 4)) Cx hW (oP ho) ic4 2 (by decide) rfl wd_48 dX4_copyFrom_24 ?_
  refine q_iconst (v := (0 : Int32)) Cx dX4_copyFrom_27 (by decide) ?_
  refine q_aload_n Cx dX4_copyFrom_28 rfl (lv_at hl 0 rfl) ?_
  refine q_get (v := .ref (vA V j 4)) Cx hW (oP hj) ic4 2 (by decide) rfl wd_48 dX4_copyFrom_29 ?_
  refine q_iconst (v := (0 : Int32)) Cx dX4_copyFrom_32 (by decide) ?_
  refine q_bipush (v := (24 : Int32)) Cx dX4_copyFrom_33 (by decide) ?_
  obtain ⟨B5, e6, hF⟩ := lt1_some hF
  refine qb_copy (cnt := (24 : Int32)) (B' := B5) Cx hW (ai_4 ho) (ai_4 hj) hoj (by decide) (by decide) (by decide) (by rw [e6, hBo]; rfl) wd_224 wd_226 wd_225 wd_22 hl.1 (by decide) (Nat.le_of_ble_eq_true rfl) dX4_copyFrom_35 (fun H locs hW => ?_)
  refine q_aload_n Cx dX4_copyFrom_38 rfl (lv_at hl 1 rfl) ?_
  refine q_get (v := .ref (vA V o 5)) Cx hW (oP ho) ic4 3 (by decide) rfl wd_50 dX4_copyFrom_39 ?_
  refine q_iconst (v := (0 : Int32)) Cx dX4_copyFrom_42 (by decide) ?_
  refine q_aload_n Cx dX4_copyFrom_43 rfl (lv_at hl 0 rfl) ?_
  refine q_get (v := .ref (vA V j 5)) Cx hW (oP hj) ic4 3 (by decide) rfl wd_50 dX4_copyFrom_44 ?_
  refine q_iconst (v := (0 : Int32)) Cx dX4_copyFrom_47 (by decide) ?_
  refine q_bipush (v := (24 : Int32)) Cx dX4_copyFrom_48 (by decide) ?_
  obtain ⟨B7, e8, hF⟩ := lt1_some hF
  refine qb_copy (cnt := (24 : Int32)) (B' := B7) Cx hW (ai_5 ho) (ai_5 hj) hoj (by decide) (by decide) (by decide) (by rw [e8, hBo]; rfl) wd_224 wd_226 wd_225 wd_22 hl.1 (by decide) (Nat.le_of_ble_eq_true rfl) dX4_copyFrom_50 (fun H locs hW => ?_)
  refine q_aload_n Cx dX4_copyFrom_53 rfl (lv_at hl 1 rfl) ?_
  refine q_get (v := .ref (vA V o 6)) Cx hW (oP ho) ic4 4 (by decide) rfl wd_52 dX4_copyFrom_54 ?_
  refine q_iconst (v := (0 : Int32)) Cx dX4_copyFrom_57 (by decide) ?_
  refine q_aload_n Cx dX4_copyFrom_58 rfl (lv_at hl 0 rfl) ?_
  refine q_get (v := .ref (vA V j 6)) Cx hW (oP hj) ic4 4 (by decide) rfl wd_52 dX4_copyFrom_59 ?_
  refine q_iconst (v := (0 : Int32)) Cx dX4_copyFrom_62 (by decide) ?_
  refine q_bipush (v := (24 : Int32)) Cx dX4_copyFrom_63 (by decide) ?_
  obtain ⟨B9, e10, hF⟩ := lt1_some hF
  refine qb_copy (cnt := (24 : Int32)) (B' := B9) Cx hW (ai_6 ho) (ai_6 hj) hoj (by decide) (by decide) (by decide) (by rw [e10, hBo]; rfl) wd_224 wd_226 wd_225 wd_22 hl.1 (by decide) (Nat.le_of_ble_eq_true rfl) dX4_copyFrom_65 (fun H locs hW => ?_)
  refine q_aload_n Cx dX4_copyFrom_68 rfl (lv_at hl 1 rfl) ?_
  refine q_get (v := .ref (vA V o 7)) Cx hW (oP ho) ic4 5 (by decide) rfl wd_54 dX4_copyFrom_69 ?_
  refine q_iconst (v := (0 : Int32)) Cx dX4_copyFrom_72 (by decide) ?_
  refine q_aload_n Cx dX4_copyFrom_73 rfl (lv_at hl 0 rfl) ?_
  refine q_get (v := .ref (vA V j 7)) Cx hW (oP hj) ic4 5 (by decide) rfl wd_54 dX4_copyFrom_74 ?_
  refine q_iconst (v := (0 : Int32)) Cx dX4_copyFrom_77 (by decide) ?_
  refine q_bipush (v := (24 : Int32)) Cx dX4_copyFrom_78 (by decide) ?_
  obtain ⟨B11, e12, hF⟩ := lt1_some hF
  refine qb_copy (cnt := (24 : Int32)) (B' := B11) Cx hW (ai_7 ho) (ai_7 hj) hoj (by decide) (by decide) (by decide) (by rw [e12, hBo]; rfl) wd_224 wd_226 wd_225 wd_22 hl.1 (by decide) (Nat.le_of_ble_eq_true rfl) dX4_copyFrom_80 (fun H locs hW => ?_)
  refine q_aload_n Cx dX4_copyFrom_83 rfl (lv_at hl 1 rfl) ?_
  refine q_get (v := .ref (vA V o 8)) Cx hW (oP ho) ic4 6 (by decide) rfl wd_56 dX4_copyFrom_84 ?_
  refine q_iconst (v := (0 : Int32)) Cx dX4_copyFrom_87 (by decide) ?_
  refine q_aload_n Cx dX4_copyFrom_88 rfl (lv_at hl 0 rfl) ?_
  refine q_get (v := .ref (vA V j 8)) Cx hW (oP hj) ic4 6 (by decide) rfl wd_56 dX4_copyFrom_89 ?_
  refine q_iconst (v := (0 : Int32)) Cx dX4_copyFrom_92 (by decide) ?_
  refine q_bipush (v := (96 : Int32)) Cx dX4_copyFrom_93 (by decide) ?_
  obtain ⟨B13, e14, hF⟩ := lt1_some hF
  refine qb_copy (cnt := (96 : Int32)) (B' := B13) Cx hW (ai_8 ho) (ai_8 hj) hoj (by decide) (by decide) (by decide) (by rw [e14, hBo]; rfl) wd_224 wd_226 wd_225 wd_22 hl.1 (by decide) (Nat.le_of_ble_eq_true rfl) dX4_copyFrom_95 (fun H locs hW => ?_)
  refine q_aload_n Cx dX4_copyFrom_98 rfl (lv_at hl 1 rfl) ?_
  refine q_get (v := .ref (vA V o 9)) Cx hW (oP ho) ic4 7 (by decide) rfl wd_57 dX4_copyFrom_99 ?_
  refine q_iconst (v := (0 : Int32)) Cx dX4_copyFrom_102 (by decide) ?_
  refine q_aload_n Cx dX4_copyFrom_103 rfl (lv_at hl 0 rfl) ?_
  refine q_get (v := .ref (vA V j 9)) Cx hW (oP hj) ic4 7 (by decide) rfl wd_57 dX4_copyFrom_104 ?_
  refine q_iconst (v := (0 : Int32)) Cx dX4_copyFrom_107 (by decide) ?_
  refine q_iconst (v := (4 : Int32)) Cx dX4_copyFrom_108 (by decide) ?_
  obtain ⟨B15, e16, hF⟩ := lt1_some hF
  refine qb_copy (cnt := (4 : Int32)) (B' := B15) Cx hW (ai_9 ho) (ai_9 hj) hoj (by decide) (by decide) (by decide) (by rw [e16, hBo]; rfl) wd_224 wd_226 wd_225 wd_22 hl.1 (by decide) (Nat.le_of_ble_eq_true rfl) dX4_copyFrom_109 (fun H locs hW => ?_)
  obtain rfl := Option.some.inj hF
  exact hret _ _ _ _ dX4_copyFrom_112 hW
set_option maxRecDepth 100000 in
theorem kX4_copyFrom {l : Launch} {V : VT} {M : Mem} {j : Nat} (hj : j < 11) {o : Nat} (ho : o < 11) (hoj : o ≠ j) {Bo : Blk} (hBo : Bo = M o) {B : Blk} {B' : Blk} (hF : FX4_copyFrom B Bo = some B') : MetV l V yX4_copyFrom cX4_copyFrom 2 ({ frames := 1, cells := 0, slots := 0, locals := 60 } : Room) [.ref (vA V j 1), .ref (vA V o 1)] (jb M j B) (jb M j B') := metV_of (by decide) (Nat.le_of_ble_eq_true rfl) (fun E H0 _ Cx hret H locs ls hW hl => wX4_copyFrom hj ho hoj Cx hret hBo hW hl hF)
theorem dX4_has_0 : decode cX4_has 0 = .ok (.iload_n 1, 1) := by decide +kernel
theorem dX4_has_1 : decode cX4_has 1 = .ok (.ifCond .lt 15, 3) := by decide +kernel
theorem dX4_has_4 : decode cX4_has 4 = .ok (.iload_n 1, 1) := by decide +kernel
theorem dX4_has_5 : decode cX4_has 5 = .ok (.aload_n 0, 1) := by decide +kernel
theorem dX4_has_6 : decode cX4_has 6 = .ok (.getfield 39, 3) := by decide +kernel
theorem dX4_has_9 : decode cX4_has 9 = .ok (.if_icmp .ge 7, 3) := by decide +kernel
theorem dX4_has_12 : decode cX4_has 12 = .ok (.iconst 1, 1) := by decide +kernel
theorem dX4_has_13 : decode cX4_has 13 = .ok (.goto 4, 3) := by decide +kernel
theorem dX4_has_16 : decode cX4_has 16 = .ok (.iconst 0, 1) := by decide +kernel
theorem dX4_has_17 : decode cX4_has 17 = .ok (.ireturn, 1) := by decide +kernel
theorem okX4_has : CalOK yX4_has cX4_has 2 (some .boolean) 1 := ⟨wd_18, wd_252, by decide +kernel⟩
theorem ovX4_has : VirOK yX4_has := ⟨wd_250, wd_251⟩
def FX4_has (B : Blk) (l1 : Int32) : Option Int32 :=
  if l1 < 0 then
    some (0 : Int32)
  else
    if ((B 1) 0) ≤ l1 then
      some (0 : Int32)
    else
      some (1 : Int32)
set_option maxRecDepth 100000 in
set_option maxHeartbeats 4000000 in
theorem wX4_has {E : WE} {V : VT} {A : Nat → Prop} {H0 : Heap} {M : Mem} {j : Nat} (hj : j < 11) (Cx : CX E RX4 cX4_has 2 0 0) {r : Int32} {B : Blk} (hret : RetI E V A H0 cX4_has .boolean r (jb M j B)) {H : Heap} {locs : List Loc} {ls : Array Slot} {l1 : Int32} (hW : Wd V A H0 (jb M j B) (eS E) H locs) (hl : lv_has ls 2 [(0, .ref (vA V j 1)), (1, .int l1)]) (hF : FX4_has B l1 = some r) : Wq E H locs 0 ls [] := by
  unfold FX4_has at hF
  refine q_iload_n Cx dX4_has_0 rfl (lv_at hl 1 rfl) ?_
  refine q_if_lt (tgt := 16) Cx dX4_has_1 (by decide) (fun c1 => ?_) (fun c1 => ?_)
  · have hF := (if_pos c1).symm.trans hF
    refine q_iconst (v := (0 : Int32)) Cx dX4_has_16 (by decide) ?_
    obtain rfl := Option.some.inj hF
    exact hret _ _ _ _ dX4_has_17 (by rfl) hW
  · have hF := (if_neg c1).symm.trans hF
    refine q_iload_n Cx dX4_has_4 rfl (lv_at hl 1 rfl) ?_
    refine q_aload_n Cx dX4_has_5 rfl (lv_at hl 0 rfl) ?_
    refine qb_get (v := .int ((B 1) 0)) Cx hW (oP hj) ic4 0 (by decide) rfl wd_44 dX4_has_6 ?_
    refine q_icmp_ge (tgt := 16) Cx dX4_has_9 (by decide) (fun c2 => ?_) (fun c2 => ?_)
    · have hF := (if_pos c2).symm.trans hF
      refine q_iconst (v := (0 : Int32)) Cx dX4_has_16 (by decide) ?_
      obtain rfl := Option.some.inj hF
      exact hret _ _ _ _ dX4_has_17 (by rfl) hW
    · have hF := (if_neg c2).symm.trans hF
      refine q_iconst (v := (1 : Int32)) Cx dX4_has_12 (by decide) ?_
      refine q_goto (tgt := 17) Cx dX4_has_13 (by decide) ?_
      obtain rfl := Option.some.inj hF
      exact hret _ _ _ _ dX4_has_17 (by rfl) hW
set_option maxRecDepth 100000 in
theorem kX4_has {l : Launch} {V : VT} {M : Mem} {j : Nat} (hj : j < 11) {B : Blk} {l1 : Int32} {r : Int32} (hF : FX4_has B l1 = some r) : MetI l V yX4_has cX4_has 2 .boolean ({ frames := 0, cells := 0, slots := 0, locals := 0 } : Room) [.ref (vA V j 1), .int l1] r (jb M j B) (jb M j B) := metI_of (by decide) (Nat.le_of_ble_eq_true rfl) (fun E H0 _ Cx hret H locs ls hW hl => wX4_has hj Cx hret hW hl hF)
theorem dX4_append_0 : decode cX4_append 0 = .ok (.aload_n 0, 1) := by decide +kernel
theorem dX4_append_1 : decode cX4_append 1 = .ok (.getfield 39, 3) := by decide +kernel
theorem dX4_append_4 : decode cX4_append 4 = .ok (.istore 4, 2) := by decide +kernel
theorem dX4_append_6 : decode cX4_append 6 = .ok (.iload 4, 2) := by decide +kernel
theorem dX4_append_8 : decode cX4_append 8 = .ok (.bipush 24, 2) := by decide +kernel
theorem dX4_append_10 : decode cX4_append 10 = .ok (.if_icmp .lt 4, 3) := by decide +kernel
theorem dX4_append_13 : decode cX4_append 13 = .ok (.return_, 1) := by decide +kernel
theorem dX4_append_14 : decode cX4_append 14 = .ok (.aload_n 0, 1) := by decide +kernel
theorem dX4_append_15 : decode cX4_append 15 = .ok (.getfield 9, 3) := by decide +kernel
theorem dX4_append_18 : decode cX4_append 18 = .ok (.iload 4, 2) := by decide +kernel
theorem dX4_append_20 : decode cX4_append 20 = .ok (.iload_n 1, 1) := by decide +kernel
theorem dX4_append_21 : decode cX4_append 21 = .ok (.iastore, 1) := by decide +kernel
theorem dX4_append_22 : decode cX4_append 22 = .ok (.aload_n 0, 1) := by decide +kernel
theorem dX4_append_23 : decode cX4_append 23 = .ok (.getfield 15, 3) := by decide +kernel
theorem dX4_append_26 : decode cX4_append 26 = .ok (.iload 4, 2) := by decide +kernel
theorem dX4_append_28 : decode cX4_append 28 = .ok (.iload_n 2, 1) := by decide +kernel
theorem dX4_append_29 : decode cX4_append 29 = .ok (.iastore, 1) := by decide +kernel
theorem dX4_append_30 : decode cX4_append 30 = .ok (.aload_n 0, 1) := by decide +kernel
theorem dX4_append_31 : decode cX4_append 31 = .ok (.getfield 18, 3) := by decide +kernel
theorem dX4_append_34 : decode cX4_append 34 = .ok (.iload 4, 2) := by decide +kernel
theorem dX4_append_36 : decode cX4_append 36 = .ok (.iload_n 3, 1) := by decide +kernel
theorem dX4_append_37 : decode cX4_append 37 = .ok (.iastore, 1) := by decide +kernel
theorem dX4_append_38 : decode cX4_append 38 = .ok (.aload_n 0, 1) := by decide +kernel
theorem dX4_append_39 : decode cX4_append 39 = .ok (.getfield 27, 3) := by decide +kernel
theorem dX4_append_42 : decode cX4_append 42 = .ok (.iload_n 1, 1) := by decide +kernel
theorem dX4_append_43 : decode cX4_append 43 = .ok (.bipush 24, 2) := by decide +kernel
theorem dX4_append_45 : decode cX4_append 45 = .ok (.imul, 1) := by decide +kernel
theorem dX4_append_46 : decode cX4_append 46 = .ok (.aload_n 0, 1) := by decide +kernel
theorem dX4_append_47 : decode cX4_append 47 = .ok (.getfield 30, 3) := by decide +kernel
theorem dX4_append_50 : decode cX4_append 50 = .ok (.iload_n 1, 1) := by decide +kernel
theorem dX4_append_51 : decode cX4_append 51 = .ok (.iaload, 1) := by decide +kernel
theorem dX4_append_52 : decode cX4_append 52 = .ok (.iadd, 1) := by decide +kernel
theorem dX4_append_53 : decode cX4_append 53 = .ok (.iload 4, 2) := by decide +kernel
theorem dX4_append_55 : decode cX4_append 55 = .ok (.iastore, 1) := by decide +kernel
theorem dX4_append_56 : decode cX4_append 56 = .ok (.aload_n 0, 1) := by decide +kernel
theorem dX4_append_57 : decode cX4_append 57 = .ok (.getfield 30, 3) := by decide +kernel
theorem dX4_append_60 : decode cX4_append 60 = .ok (.iload_n 1, 1) := by decide +kernel
theorem dX4_append_61 : decode cX4_append 61 = .ok (.dup2, 1) := by decide +kernel
theorem dX4_append_62 : decode cX4_append 62 = .ok (.iaload, 1) := by decide +kernel
theorem dX4_append_63 : decode cX4_append 63 = .ok (.iconst 1, 1) := by decide +kernel
theorem dX4_append_64 : decode cX4_append 64 = .ok (.iadd, 1) := by decide +kernel
theorem dX4_append_65 : decode cX4_append 65 = .ok (.iastore, 1) := by decide +kernel
theorem dX4_append_66 : decode cX4_append 66 = .ok (.aload_n 0, 1) := by decide +kernel
theorem dX4_append_67 : decode cX4_append 67 = .ok (.dup, 1) := by decide +kernel
theorem dX4_append_68 : decode cX4_append 68 = .ok (.getfield 39, 3) := by decide +kernel
theorem dX4_append_71 : decode cX4_append 71 = .ok (.iconst 1, 1) := by decide +kernel
theorem dX4_append_72 : decode cX4_append 72 = .ok (.iadd, 1) := by decide +kernel
theorem dX4_append_73 : decode cX4_append 73 = .ok (.putfield 39, 3) := by decide +kernel
theorem dX4_append_76 : decode cX4_append 76 = .ok (.return_, 1) := by decide +kernel
theorem okX4_append : CalOK yX4_append cX4_append 5 (none) 3 := ⟨wd_18, wd_388, by decide +kernel⟩
theorem ovX4_append : VirOK yX4_append := ⟨wd_386, wd_387⟩
def FX4_append (B : Blk) (l1 : Int32) (l2 : Int32) (l3 : Int32) : Option Blk :=
  lt1 ((B 1) 0) fun x1 =>
  if x1 < (24 : Int32) then
    stb B 3 24 x1 l1 fun B4 =>
    stb B4 4 24 x1 l2 fun B7 =>
    stb B7 5 24 x1 l3 fun B10 =>
    ld (B10 9) 4 l1 fun v13 =>
    stb B10 8 96 ((l1 * (24 : Int32)) + v13) x1 fun B16 =>
    ld (B16 9) 4 l1 fun v19 =>
    stb B16 9 4 l1 (v19 + (1 : Int32)) fun B22 =>
    lt1 (bs B22 1 0 (((B22 1) 0) + (1 : Int32))) fun B25 =>
    some B25
  else
    some B
set_option maxRecDepth 100000 in
set_option maxHeartbeats 4000000 in
theorem wX4_append {E : WE} {V : VT} {A : Nat → Prop} {H0 : Heap} {M : Mem} {j : Nat} (hj : j < 11) (Cx : CX E RX4 cX4_append 5 0 0) {B' : Blk} (hret : RetV E V A H0 cX4_append (jb M j B')) {H : Heap} {locs : List Loc} {ls : Array Slot} {l1 : Int32} {l2 : Int32} {l3 : Int32} {B : Blk} (hW : Wd V A H0 (jb M j B) (eS E) H locs) (hl : lv_has ls 5 [(0, .ref (vA V j 1)), (1, .int l1), (2, .int l2), (3, .int l3)]) (hF : FX4_append B l1 l2 l3 = some B') : Wq E H locs 0 ls [] := by
  unfold FX4_append at hF
  refine q_aload_n Cx dX4_append_0 rfl (lv_at hl 0 rfl) ?_
  refine qb_get (v := .int ((B 1) 0)) Cx hW (oP hj) ic4 0 (by decide) rfl wd_44 dX4_append_1 ?_
  obtain ⟨x1, e2, hF⟩ := lt1_some hF
  refine q_topi e2 ?_
  refine q_istore (lv' := [(4, .int x1), (0, .ref (vA V j 1)), (1, .int l1), (2, .int l2), (3, .int l3)]) Cx dX4_append_4 hl (by decide) rfl (fun ls hl => ?_)
  refine q_iload Cx dX4_append_6 (lv_at hl 0 rfl) ?_
  refine q_bipush (v := (24 : Int32)) Cx dX4_append_8 (by decide) ?_
  refine q_icmp_lt (tgt := 14) Cx dX4_append_10 (by decide) (fun c3 => ?_) (fun c3 => ?_)
  · have hF := (if_pos c3).symm.trans hF
    refine q_aload_n Cx dX4_append_14 rfl (lv_at hl 1 rfl) ?_
    refine q_get (v := .ref (vA V j 3)) Cx hW (oP hj) ic4 1 (by decide) rfl wd_46 dX4_append_15 ?_
    refine q_iload Cx dX4_append_18 (lv_at hl 0 rfl) ?_
    refine q_iload_n Cx dX4_append_20 rfl (lv_at hl 2 rfl) ?_
    obtain ⟨h5, B4, e6, hF⟩ := stb_some hF
    refine qb_iast Cx hW (ai_3 hj) h5 e6 dX4_append_21 (fun H locs hW => ?_)
    refine q_aload_n Cx dX4_append_22 rfl (lv_at hl 1 rfl) ?_
    refine q_get (v := .ref (vA V j 4)) Cx hW (oP hj) ic4 2 (by decide) rfl wd_48 dX4_append_23 ?_
    refine q_iload Cx dX4_append_26 (lv_at hl 0 rfl) ?_
    refine q_iload_n Cx dX4_append_28 rfl (lv_at hl 3 rfl) ?_
    obtain ⟨h8, B7, e9, hF⟩ := stb_some hF
    refine qb_iast Cx hW (ai_4 hj) h8 e9 dX4_append_29 (fun H locs hW => ?_)
    refine q_aload_n Cx dX4_append_30 rfl (lv_at hl 1 rfl) ?_
    refine q_get (v := .ref (vA V j 5)) Cx hW (oP hj) ic4 3 (by decide) rfl wd_50 dX4_append_31 ?_
    refine q_iload Cx dX4_append_34 (lv_at hl 0 rfl) ?_
    refine q_iload_n Cx dX4_append_36 rfl (lv_at hl 4 rfl) ?_
    obtain ⟨h11, B10, e12, hF⟩ := stb_some hF
    refine qb_iast Cx hW (ai_5 hj) h11 e12 dX4_append_37 (fun H locs hW => ?_)
    refine q_aload_n Cx dX4_append_38 rfl (lv_at hl 1 rfl) ?_
    refine q_get (v := .ref (vA V j 8)) Cx hW (oP hj) ic4 6 (by decide) rfl wd_56 dX4_append_39 ?_
    refine q_iload_n Cx dX4_append_42 rfl (lv_at hl 2 rfl) ?_
    refine q_bipush (v := (24 : Int32)) Cx dX4_append_43 (by decide) ?_
    refine q_imul Cx dX4_append_45 ?_
    refine q_aload_n Cx dX4_append_46 rfl (lv_at hl 1 rfl) ?_
    refine q_get (v := .ref (vA V j 9)) Cx hW (oP hj) ic4 7 (by decide) rfl wd_57 dX4_append_47 ?_
    refine q_iload_n Cx dX4_append_50 rfl (lv_at hl 2 rfl) ?_
    obtain ⟨h14, v13, e15, hF⟩ := ld_some hF
    refine qb_iald Cx hW (ai_9 hj) h14 e15 dX4_append_51 ?_
    refine q_iadd Cx dX4_append_52 ?_
    refine q_iload Cx dX4_append_53 (lv_at hl 0 rfl) ?_
    obtain ⟨h17, B16, e18, hF⟩ := stb_some hF
    refine qb_iast Cx hW (ai_8 hj) h17 e18 dX4_append_55 (fun H locs hW => ?_)
    refine q_aload_n Cx dX4_append_56 rfl (lv_at hl 1 rfl) ?_
    refine q_get (v := .ref (vA V j 9)) Cx hW (oP hj) ic4 7 (by decide) rfl wd_57 dX4_append_57 ?_
    refine q_iload_n Cx dX4_append_60 rfl (lv_at hl 2 rfl) ?_
    refine q_dup2 Cx dX4_append_61 rfl rfl ?_
    obtain ⟨h20, v19, e21, hF⟩ := ld_some hF
    refine qb_iald Cx hW (ai_9 hj) h20 e21 dX4_append_62 ?_
    refine q_iconst (v := (1 : Int32)) Cx dX4_append_63 (by decide) ?_
    refine q_iadd Cx dX4_append_64 ?_
    obtain ⟨h23, B22, e24, hF⟩ := stb_some hF
    refine qb_iast Cx hW (ai_9 hj) h23 e24 dX4_append_65 (fun H locs hW => ?_)
    refine q_aload_n Cx dX4_append_66 rfl (lv_at hl 1 rfl) ?_
    refine q_dup Cx dX4_append_67 rfl ?_
    refine qb_get (v := .int ((B22 1) 0)) Cx hW (oP hj) ic4 0 (by decide) rfl wd_44 dX4_append_68 ?_
    refine q_iconst (v := (1 : Int32)) Cx dX4_append_71 (by decide) ?_
    refine q_iadd Cx dX4_append_72 ?_
    obtain ⟨B25, e26, hF⟩ := lt1_some hF
    refine qb_put Cx hW (oP hj) ic4 0 (by decide) (Nat.le_of_ble_eq_true rfl) e26 rfl rfl ⟨nI32 _, rfl⟩ wd_44 dX4_append_73 (fun H locs hW => ?_)
    obtain rfl := Option.some.inj hF
    exact hret _ _ _ _ dX4_append_76 hW
  · have hF := (if_neg c3).symm.trans hF
    obtain rfl := Option.some.inj hF
    exact hret _ _ _ _ dX4_append_13 hW
set_option maxRecDepth 100000 in
theorem kX4_append {l : Launch} {V : VT} {M : Mem} {j : Nat} (hj : j < 11) {B : Blk} {l1 : Int32} {l2 : Int32} {l3 : Int32} {B' : Blk} (hF : FX4_append B l1 l2 l3 = some B') : MetV l V yX4_append cX4_append 5 ({ frames := 0, cells := 0, slots := 0, locals := 0 } : Room) [.ref (vA V j 1), .int l1, .int l2, .int l3] (jb M j B) (jb M j B') := metV_of (by decide) (Nat.le_of_ble_eq_true rfl) (fun E H0 _ Cx hret H locs ls hW hl => wX4_append hj Cx hret hW hl hF)
theorem dX4_inRow_0 : decode cX4_inRow 0 = .ok (.iload_n 1, 1) := by decide +kernel
theorem dX4_inRow_1 : decode cX4_inRow 1 = .ok (.ifCond .lt 22, 3) := by decide +kernel
theorem dX4_inRow_4 : decode cX4_inRow 4 = .ok (.iload_n 1, 1) := by decide +kernel
theorem dX4_inRow_5 : decode cX4_inRow 5 = .ok (.iconst 4, 1) := by decide +kernel
theorem dX4_inRow_6 : decode cX4_inRow 6 = .ok (.if_icmp .ge 17, 3) := by decide +kernel
theorem dX4_inRow_9 : decode cX4_inRow 9 = .ok (.iload_n 2, 1) := by decide +kernel
theorem dX4_inRow_10 : decode cX4_inRow 10 = .ok (.ifCond .lt 13, 3) := by decide +kernel
theorem dX4_inRow_13 : decode cX4_inRow 13 = .ok (.iload_n 2, 1) := by decide +kernel
theorem dX4_inRow_14 : decode cX4_inRow 14 = .ok (.aload_n 0, 1) := by decide +kernel
theorem dX4_inRow_15 : decode cX4_inRow 15 = .ok (.getfield 30, 3) := by decide +kernel
theorem dX4_inRow_18 : decode cX4_inRow 18 = .ok (.iload_n 1, 1) := by decide +kernel
theorem dX4_inRow_19 : decode cX4_inRow 19 = .ok (.iaload, 1) := by decide +kernel
theorem dX4_inRow_20 : decode cX4_inRow 20 = .ok (.if_icmp .lt 6, 3) := by decide +kernel
theorem dX4_inRow_23 : decode cX4_inRow 23 = .ok (.bipush (-6), 2) := by decide +kernel
theorem dX4_inRow_25 : decode cX4_inRow 25 = .ok (.ireturn, 1) := by decide +kernel
theorem dX4_inRow_26 : decode cX4_inRow 26 = .ok (.aload_n 0, 1) := by decide +kernel
theorem dX4_inRow_27 : decode cX4_inRow 27 = .ok (.getfield 27, 3) := by decide +kernel
theorem dX4_inRow_30 : decode cX4_inRow 30 = .ok (.iload_n 1, 1) := by decide +kernel
theorem dX4_inRow_31 : decode cX4_inRow 31 = .ok (.bipush 24, 2) := by decide +kernel
theorem dX4_inRow_33 : decode cX4_inRow 33 = .ok (.imul, 1) := by decide +kernel
theorem dX4_inRow_34 : decode cX4_inRow 34 = .ok (.iload_n 2, 1) := by decide +kernel
theorem dX4_inRow_35 : decode cX4_inRow 35 = .ok (.iadd, 1) := by decide +kernel
theorem dX4_inRow_36 : decode cX4_inRow 36 = .ok (.iaload, 1) := by decide +kernel
theorem dX4_inRow_37 : decode cX4_inRow 37 = .ok (.ireturn, 1) := by decide +kernel
theorem okX4_inRow : CalOK yX4_inRow cX4_inRow 3 (some .int) 2 := ⟨wd_18, wd_264, by decide +kernel⟩
theorem ovX4_inRow : VirOK yX4_inRow := ⟨wd_262, wd_263⟩
def FX4_inRow (B : Blk) (l1 : Int32) (l2 : Int32) : Option Int32 :=
  if l1 < 0 then
    some (-6 : Int32)
  else
    if (4 : Int32) ≤ l1 then
      some (-6 : Int32)
    else
      if l2 < 0 then
        some (-6 : Int32)
      else
        ld (B 9) 4 l1 fun v4 =>
        if l2 < v4 then
          ld (B 8) 96 ((l1 * (24 : Int32)) + l2) fun v8 =>
          some v8
        else
          some (-6 : Int32)
set_option maxRecDepth 100000 in
set_option maxHeartbeats 4000000 in
theorem wX4_inRow {E : WE} {V : VT} {A : Nat → Prop} {H0 : Heap} {M : Mem} {j : Nat} (hj : j < 11) (Cx : CX E RX4 cX4_inRow 3 0 0) {r : Int32} {B : Blk} (hret : RetI E V A H0 cX4_inRow .int r (jb M j B)) {H : Heap} {locs : List Loc} {ls : Array Slot} {l1 : Int32} {l2 : Int32} (hW : Wd V A H0 (jb M j B) (eS E) H locs) (hl : lv_has ls 3 [(0, .ref (vA V j 1)), (1, .int l1), (2, .int l2)]) (hF : FX4_inRow B l1 l2 = some r) : Wq E H locs 0 ls [] := by
  unfold FX4_inRow at hF
  refine q_iload_n Cx dX4_inRow_0 rfl (lv_at hl 1 rfl) ?_
  refine q_if_lt (tgt := 23) Cx dX4_inRow_1 (by decide) (fun c1 => ?_) (fun c1 => ?_)
  · have hF := (if_pos c1).symm.trans hF
    refine q_bipush (v := (-6 : Int32)) Cx dX4_inRow_23 (by decide) ?_
    obtain rfl := Option.some.inj hF
    exact hret _ _ _ _ dX4_inRow_25 (nI32 _) hW
  · have hF := (if_neg c1).symm.trans hF
    refine q_iload_n Cx dX4_inRow_4 rfl (lv_at hl 1 rfl) ?_
    refine q_iconst (v := (4 : Int32)) Cx dX4_inRow_5 (by decide) ?_
    refine q_icmp_ge (tgt := 23) Cx dX4_inRow_6 (by decide) (fun c2 => ?_) (fun c2 => ?_)
    · have hF := (if_pos c2).symm.trans hF
      refine q_bipush (v := (-6 : Int32)) Cx dX4_inRow_23 (by decide) ?_
      obtain rfl := Option.some.inj hF
      exact hret _ _ _ _ dX4_inRow_25 (nI32 _) hW
    · have hF := (if_neg c2).symm.trans hF
      refine q_iload_n Cx dX4_inRow_9 rfl (lv_at hl 2 rfl) ?_
      refine q_if_lt (tgt := 23) Cx dX4_inRow_10 (by decide) (fun c3 => ?_) (fun c3 => ?_)
      · have hF := (if_pos c3).symm.trans hF
        refine q_bipush (v := (-6 : Int32)) Cx dX4_inRow_23 (by decide) ?_
        obtain rfl := Option.some.inj hF
        exact hret _ _ _ _ dX4_inRow_25 (nI32 _) hW
      · have hF := (if_neg c3).symm.trans hF
        refine q_iload_n Cx dX4_inRow_13 rfl (lv_at hl 2 rfl) ?_
        refine q_aload_n Cx dX4_inRow_14 rfl (lv_at hl 0 rfl) ?_
        refine q_get (v := .ref (vA V j 9)) Cx hW (oP hj) ic4 7 (by decide) rfl wd_57 dX4_inRow_15 ?_
        refine q_iload_n Cx dX4_inRow_18 rfl (lv_at hl 1 rfl) ?_
        obtain ⟨h5, v4, e6, hF⟩ := ld_some hF
        refine qb_iald Cx hW (ai_9 hj) h5 e6 dX4_inRow_19 ?_
        refine q_icmp_lt (tgt := 26) Cx dX4_inRow_20 (by decide) (fun c7 => ?_) (fun c7 => ?_)
        · have hF := (if_pos c7).symm.trans hF
          refine q_aload_n Cx dX4_inRow_26 rfl (lv_at hl 0 rfl) ?_
          refine q_get (v := .ref (vA V j 8)) Cx hW (oP hj) ic4 6 (by decide) rfl wd_56 dX4_inRow_27 ?_
          refine q_iload_n Cx dX4_inRow_30 rfl (lv_at hl 1 rfl) ?_
          refine q_bipush (v := (24 : Int32)) Cx dX4_inRow_31 (by decide) ?_
          refine q_imul Cx dX4_inRow_33 ?_
          refine q_iload_n Cx dX4_inRow_34 rfl (lv_at hl 2 rfl) ?_
          refine q_iadd Cx dX4_inRow_35 ?_
          obtain ⟨h9, v8, e10, hF⟩ := ld_some hF
          refine qb_iald Cx hW (ai_8 hj) h9 e10 dX4_inRow_36 ?_
          obtain rfl := Option.some.inj hF
          exact hret _ _ _ _ dX4_inRow_37 (nI32 _) hW
        · have hF := (if_neg c7).symm.trans hF
          refine q_bipush (v := (-6 : Int32)) Cx dX4_inRow_23 (by decide) ?_
          obtain rfl := Option.some.inj hF
          exact hret _ _ _ _ dX4_inRow_25 (nI32 _) hW
set_option maxRecDepth 100000 in
theorem kX4_inRow {l : Launch} {V : VT} {M : Mem} {j : Nat} (hj : j < 11) {B : Blk} {l1 : Int32} {l2 : Int32} {r : Int32} (hF : FX4_inRow B l1 l2 = some r) : MetI l V yX4_inRow cX4_inRow 3 .int ({ frames := 0, cells := 0, slots := 0, locals := 0 } : Room) [.ref (vA V j 1), .int l1, .int l2] r (jb M j B) (jb M j B) := metI_of (by decide) (Nat.le_of_ble_eq_true rfl) (fun E H0 _ Cx hret H locs ls hW hl => wX4_inRow hj Cx hret hW hl hF)
theorem dX4_endOf_0 : decode cX4_endOf 0 = .ok (.iload_n 1, 1) := by decide +kernel
theorem dX4_endOf_1 : decode cX4_endOf 1 = .ok (.ifCond .lt 20, 3) := by decide +kernel
theorem dX4_endOf_4 : decode cX4_endOf 4 = .ok (.iload_n 1, 1) := by decide +kernel
theorem dX4_endOf_5 : decode cX4_endOf 5 = .ok (.aload_n 0, 1) := by decide +kernel
theorem dX4_endOf_6 : decode cX4_endOf 6 = .ok (.getfield 39, 3) := by decide +kernel
theorem dX4_endOf_9 : decode cX4_endOf 9 = .ok (.if_icmp .ge 12, 3) := by decide +kernel
theorem dX4_endOf_12 : decode cX4_endOf 12 = .ok (.aload_n 0, 1) := by decide +kernel
theorem dX4_endOf_13 : decode cX4_endOf 13 = .ok (.getfield 21, 3) := by decide +kernel
theorem dX4_endOf_16 : decode cX4_endOf 16 = .ok (.iload_n 1, 1) := by decide +kernel
theorem dX4_endOf_17 : decode cX4_endOf 17 = .ok (.iaload, 1) := by decide +kernel
theorem dX4_endOf_18 : decode cX4_endOf 18 = .ok (.goto 4, 3) := by decide +kernel
theorem dX4_endOf_21 : decode cX4_endOf 21 = .ok (.iconst 0, 1) := by decide +kernel
theorem dX4_endOf_22 : decode cX4_endOf 22 = .ok (.ireturn, 1) := by decide +kernel
theorem okX4_endOf : CalOK yX4_endOf cX4_endOf 2 (some .int) 1 := ⟨wd_18, wd_268, by decide +kernel⟩
theorem ovX4_endOf : VirOK yX4_endOf := ⟨wd_266, wd_267⟩
def FX4_endOf (B : Blk) (l1 : Int32) : Option Int32 :=
  if l1 < 0 then
    some (0 : Int32)
  else
    if ((B 1) 0) ≤ l1 then
      some (0 : Int32)
    else
      ld (B 6) 24 l1 fun v3 =>
      some v3
set_option maxRecDepth 100000 in
set_option maxHeartbeats 4000000 in
theorem wX4_endOf {E : WE} {V : VT} {A : Nat → Prop} {H0 : Heap} {M : Mem} {j : Nat} (hj : j < 11) (Cx : CX E RX4 cX4_endOf 2 0 0) {r : Int32} {B : Blk} (hret : RetI E V A H0 cX4_endOf .int r (jb M j B)) {H : Heap} {locs : List Loc} {ls : Array Slot} {l1 : Int32} (hW : Wd V A H0 (jb M j B) (eS E) H locs) (hl : lv_has ls 2 [(0, .ref (vA V j 1)), (1, .int l1)]) (hF : FX4_endOf B l1 = some r) : Wq E H locs 0 ls [] := by
  unfold FX4_endOf at hF
  refine q_iload_n Cx dX4_endOf_0 rfl (lv_at hl 1 rfl) ?_
  refine q_if_lt (tgt := 21) Cx dX4_endOf_1 (by decide) (fun c1 => ?_) (fun c1 => ?_)
  · have hF := (if_pos c1).symm.trans hF
    refine q_iconst (v := (0 : Int32)) Cx dX4_endOf_21 (by decide) ?_
    obtain rfl := Option.some.inj hF
    exact hret _ _ _ _ dX4_endOf_22 (nI32 _) hW
  · have hF := (if_neg c1).symm.trans hF
    refine q_iload_n Cx dX4_endOf_4 rfl (lv_at hl 1 rfl) ?_
    refine q_aload_n Cx dX4_endOf_5 rfl (lv_at hl 0 rfl) ?_
    refine qb_get (v := .int ((B 1) 0)) Cx hW (oP hj) ic4 0 (by decide) rfl wd_44 dX4_endOf_6 ?_
    refine q_icmp_ge (tgt := 21) Cx dX4_endOf_9 (by decide) (fun c2 => ?_) (fun c2 => ?_)
    · have hF := (if_pos c2).symm.trans hF
      refine q_iconst (v := (0 : Int32)) Cx dX4_endOf_21 (by decide) ?_
      obtain rfl := Option.some.inj hF
      exact hret _ _ _ _ dX4_endOf_22 (nI32 _) hW
    · have hF := (if_neg c2).symm.trans hF
      refine q_aload_n Cx dX4_endOf_12 rfl (lv_at hl 0 rfl) ?_
      refine q_get (v := .ref (vA V j 6)) Cx hW (oP hj) ic4 4 (by decide) rfl wd_52 dX4_endOf_13 ?_
      refine q_iload_n Cx dX4_endOf_16 rfl (lv_at hl 1 rfl) ?_
      obtain ⟨h4, v3, e5, hF⟩ := ld_some hF
      refine qb_iald Cx hW (ai_6 hj) h4 e5 dX4_endOf_17 ?_
      refine q_goto (tgt := 22) Cx dX4_endOf_18 (by decide) ?_
      obtain rfl := Option.some.inj hF
      exact hret _ _ _ _ dX4_endOf_22 (nI32 _) hW
set_option maxRecDepth 100000 in
theorem kX4_endOf {l : Launch} {V : VT} {M : Mem} {j : Nat} (hj : j < 11) {B : Blk} {l1 : Int32} {r : Int32} (hF : FX4_endOf B l1 = some r) : MetI l V yX4_endOf cX4_endOf 2 .int ({ frames := 0, cells := 0, slots := 0, locals := 0 } : Room) [.ref (vA V j 1), .int l1] r (jb M j B) (jb M j B) := metI_of (by decide) (Nat.le_of_ble_eq_true rfl) (fun E H0 _ Cx hret H locs ls hW hl => wX4_endOf hj Cx hret hW hl hF)
theorem dX4_scheduleRow_0 : decode cX4_scheduleRow 0 = .ok (.aload_n 0, 1) := by decide +kernel
theorem dX4_scheduleRow_1 : decode cX4_scheduleRow 1 = .ok (.aload_n 0, 1) := by decide +kernel
theorem dX4_scheduleRow_2 : decode cX4_scheduleRow 2 = .ok (.iload_n 1, 1) := by decide +kernel
theorem dX4_scheduleRow_3 : decode cX4_scheduleRow 3 = .ok (.aload_n 0, 1) := by decide +kernel
theorem dX4_scheduleRow_4 : decode cX4_scheduleRow 4 = .ok (.getfield 33, 3) := by decide +kernel
theorem dX4_scheduleRow_7 : decode cX4_scheduleRow 7 = .ok (.iload_n 1, 1) := by decide +kernel
theorem dX4_scheduleRow_8 : decode cX4_scheduleRow 8 = .ok (.iaload, 1) := by decide +kernel
theorem dX4_scheduleRow_9 : decode cX4_scheduleRow 9 = .ok (.iconst 1, 1) := by decide +kernel
theorem dX4_scheduleRow_10 : decode cX4_scheduleRow 10 = .ok (.isub, 1) := by decide +kernel
theorem dX4_scheduleRow_11 : decode cX4_scheduleRow 11 = .ok (.invokevirtual 49, 3) := by decide +kernel
theorem dX4_scheduleRow_14 : decode cX4_scheduleRow 14 = .ok (.invokevirtual 65, 3) := by decide +kernel
theorem dX4_scheduleRow_17 : decode cX4_scheduleRow 17 = .ok (.istore_n 3, 1) := by decide +kernel
theorem dX4_scheduleRow_18 : decode cX4_scheduleRow 18 = .ok (.aload_n 0, 1) := by decide +kernel
theorem dX4_scheduleRow_19 : decode cX4_scheduleRow 19 = .ok (.getfield 33, 3) := by decide +kernel
theorem dX4_scheduleRow_22 : decode cX4_scheduleRow 22 = .ok (.iload_n 1, 1) := by decide +kernel
theorem dX4_scheduleRow_23 : decode cX4_scheduleRow 23 = .ok (.iaload, 1) := by decide +kernel
theorem dX4_scheduleRow_24 : decode cX4_scheduleRow 24 = .ok (.aload_n 0, 1) := by decide +kernel
theorem dX4_scheduleRow_25 : decode cX4_scheduleRow 25 = .ok (.getfield 30, 3) := by decide +kernel
theorem dX4_scheduleRow_28 : decode cX4_scheduleRow 28 = .ok (.iload_n 1, 1) := by decide +kernel
theorem dX4_scheduleRow_29 : decode cX4_scheduleRow 29 = .ok (.iaload, 1) := by decide +kernel
theorem dX4_scheduleRow_30 : decode cX4_scheduleRow 30 = .ok (.if_icmp .ge 124, 3) := by decide +kernel
theorem dX4_scheduleRow_33 : decode cX4_scheduleRow 33 = .ok (.iload_n 2, 1) := by decide +kernel
theorem dX4_scheduleRow_34 : decode cX4_scheduleRow 34 = .ok (.aload_n 0, 1) := by decide +kernel
theorem dX4_scheduleRow_35 : decode cX4_scheduleRow 35 = .ok (.getfield 39, 3) := by decide +kernel
theorem dX4_scheduleRow_38 : decode cX4_scheduleRow 38 = .ok (.if_icmp .ge 116, 3) := by decide +kernel
theorem dX4_scheduleRow_41 : decode cX4_scheduleRow 41 = .ok (.aload_n 0, 1) := by decide +kernel
theorem dX4_scheduleRow_42 : decode cX4_scheduleRow 42 = .ok (.iload_n 1, 1) := by decide +kernel
theorem dX4_scheduleRow_43 : decode cX4_scheduleRow 43 = .ok (.aload_n 0, 1) := by decide +kernel
theorem dX4_scheduleRow_44 : decode cX4_scheduleRow 44 = .ok (.getfield 33, 3) := by decide +kernel
theorem dX4_scheduleRow_47 : decode cX4_scheduleRow 47 = .ok (.iload_n 1, 1) := by decide +kernel
theorem dX4_scheduleRow_48 : decode cX4_scheduleRow 48 = .ok (.iaload, 1) := by decide +kernel
theorem dX4_scheduleRow_49 : decode cX4_scheduleRow 49 = .ok (.invokevirtual 49, 3) := by decide +kernel
theorem dX4_scheduleRow_52 : decode cX4_scheduleRow 52 = .ok (.istore 4, 2) := by decide +kernel
theorem dX4_scheduleRow_54 : decode cX4_scheduleRow 54 = .ok (.aload_n 0, 1) := by decide +kernel
theorem dX4_scheduleRow_55 : decode cX4_scheduleRow 55 = .ok (.iload 4, 2) := by decide +kernel
theorem dX4_scheduleRow_57 : decode cX4_scheduleRow 57 = .ok (.invokevirtual 68, 3) := by decide +kernel
theorem dX4_scheduleRow_60 : decode cX4_scheduleRow 60 = .ok (.ifCond .eq 94, 3) := by decide +kernel
theorem dX4_scheduleRow_63 : decode cX4_scheduleRow 63 = .ok (.aload_n 0, 1) := by decide +kernel
theorem dX4_scheduleRow_64 : decode cX4_scheduleRow 64 = .ok (.aload_n 0, 1) := by decide +kernel
theorem dX4_scheduleRow_65 : decode cX4_scheduleRow 65 = .ok (.getfield 18, 3) := by decide +kernel
theorem dX4_scheduleRow_68 : decode cX4_scheduleRow 68 = .ok (.iload 4, 2) := by decide +kernel
theorem dX4_scheduleRow_70 : decode cX4_scheduleRow 70 = .ok (.iaload, 1) := by decide +kernel
theorem dX4_scheduleRow_71 : decode cX4_scheduleRow 71 = .ok (.invokevirtual 68, 3) := by decide +kernel
theorem dX4_scheduleRow_74 : decode cX4_scheduleRow 74 = .ok (.ifCond .eq 20, 3) := by decide +kernel
theorem dX4_scheduleRow_77 : decode cX4_scheduleRow 77 = .ok (.aload_n 0, 1) := by decide +kernel
theorem dX4_scheduleRow_78 : decode cX4_scheduleRow 78 = .ok (.aload_n 0, 1) := by decide +kernel
theorem dX4_scheduleRow_79 : decode cX4_scheduleRow 79 = .ok (.getfield 18, 3) := by decide +kernel
theorem dX4_scheduleRow_82 : decode cX4_scheduleRow 82 = .ok (.iload 4, 2) := by decide +kernel
theorem dX4_scheduleRow_84 : decode cX4_scheduleRow 84 = .ok (.iaload, 1) := by decide +kernel
theorem dX4_scheduleRow_85 : decode cX4_scheduleRow 85 = .ok (.invokevirtual 65, 3) := by decide +kernel
theorem dX4_scheduleRow_88 : decode cX4_scheduleRow 88 = .ok (.ifCond .ne 6, 3) := by decide +kernel
theorem dX4_scheduleRow_91 : decode cX4_scheduleRow 91 = .ok (.goto 63, 3) := by decide +kernel
theorem dX4_scheduleRow_94 : decode cX4_scheduleRow 94 = .ok (.aload_n 0, 1) := by decide +kernel
theorem dX4_scheduleRow_95 : decode cX4_scheduleRow 95 = .ok (.aload_n 0, 1) := by decide +kernel
theorem dX4_scheduleRow_96 : decode cX4_scheduleRow 96 = .ok (.getfield 18, 3) := by decide +kernel
theorem dX4_scheduleRow_99 : decode cX4_scheduleRow 99 = .ok (.iload 4, 2) := by decide +kernel
theorem dX4_scheduleRow_101 : decode cX4_scheduleRow 101 = .ok (.iaload, 1) := by decide +kernel
theorem dX4_scheduleRow_102 : decode cX4_scheduleRow 102 = .ok (.invokevirtual 65, 3) := by decide +kernel
theorem dX4_scheduleRow_105 : decode cX4_scheduleRow 105 = .ok (.istore 5, 2) := by decide +kernel
theorem dX4_scheduleRow_107 : decode cX4_scheduleRow 107 = .ok (.iload_n 3, 1) := by decide +kernel
theorem dX4_scheduleRow_108 : decode cX4_scheduleRow 108 = .ok (.iload 5, 2) := by decide +kernel
theorem dX4_scheduleRow_110 : decode cX4_scheduleRow 110 = .ok (.invokestatic 57, 3) := by decide +kernel
theorem dX4_scheduleRow_113 : decode cX4_scheduleRow 113 = .ok (.aload_n 0, 1) := by decide +kernel
theorem dX4_scheduleRow_114 : decode cX4_scheduleRow 114 = .ok (.getfield 15, 3) := by decide +kernel
theorem dX4_scheduleRow_117 : decode cX4_scheduleRow 117 = .ok (.iload 4, 2) := by decide +kernel
theorem dX4_scheduleRow_119 : decode cX4_scheduleRow 119 = .ok (.iaload, 1) := by decide +kernel
theorem dX4_scheduleRow_120 : decode cX4_scheduleRow 120 = .ok (.iadd, 1) := by decide +kernel
theorem dX4_scheduleRow_121 : decode cX4_scheduleRow 121 = .ok (.istore_n 3, 1) := by decide +kernel
theorem dX4_scheduleRow_122 : decode cX4_scheduleRow 122 = .ok (.aload_n 0, 1) := by decide +kernel
theorem dX4_scheduleRow_123 : decode cX4_scheduleRow 123 = .ok (.getfield 21, 3) := by decide +kernel
theorem dX4_scheduleRow_126 : decode cX4_scheduleRow 126 = .ok (.iload 4, 2) := by decide +kernel
theorem dX4_scheduleRow_128 : decode cX4_scheduleRow 128 = .ok (.iload_n 3, 1) := by decide +kernel
theorem dX4_scheduleRow_129 : decode cX4_scheduleRow 129 = .ok (.iastore, 1) := by decide +kernel
theorem dX4_scheduleRow_130 : decode cX4_scheduleRow 130 = .ok (.aload_n 0, 1) := by decide +kernel
theorem dX4_scheduleRow_131 : decode cX4_scheduleRow 131 = .ok (.getfield 24, 3) := by decide +kernel
theorem dX4_scheduleRow_134 : decode cX4_scheduleRow 134 = .ok (.iload_n 2, 1) := by decide +kernel
theorem dX4_scheduleRow_135 : decode cX4_scheduleRow 135 = .ok (.iload 4, 2) := by decide +kernel
theorem dX4_scheduleRow_137 : decode cX4_scheduleRow 137 = .ok (.iastore, 1) := by decide +kernel
theorem dX4_scheduleRow_138 : decode cX4_scheduleRow 138 = .ok (.iinc 2 1, 3) := by decide +kernel
theorem dX4_scheduleRow_141 : decode cX4_scheduleRow 141 = .ok (.aload_n 0, 1) := by decide +kernel
theorem dX4_scheduleRow_142 : decode cX4_scheduleRow 142 = .ok (.getfield 33, 3) := by decide +kernel
theorem dX4_scheduleRow_145 : decode cX4_scheduleRow 145 = .ok (.iload_n 1, 1) := by decide +kernel
theorem dX4_scheduleRow_146 : decode cX4_scheduleRow 146 = .ok (.dup2, 1) := by decide +kernel
theorem dX4_scheduleRow_147 : decode cX4_scheduleRow 147 = .ok (.iaload, 1) := by decide +kernel
theorem dX4_scheduleRow_148 : decode cX4_scheduleRow 148 = .ok (.iconst 1, 1) := by decide +kernel
theorem dX4_scheduleRow_149 : decode cX4_scheduleRow 149 = .ok (.iadd, 1) := by decide +kernel
theorem dX4_scheduleRow_150 : decode cX4_scheduleRow 150 = .ok (.iastore, 1) := by decide +kernel
theorem dX4_scheduleRow_151 : decode cX4_scheduleRow 151 = .ok (.goto (-133), 3) := by decide +kernel
theorem dX4_scheduleRow_154 : decode cX4_scheduleRow 154 = .ok (.iload_n 2, 1) := by decide +kernel
theorem dX4_scheduleRow_155 : decode cX4_scheduleRow 155 = .ok (.ireturn, 1) := by decide +kernel
theorem okX4_scheduleRow : CalOK yX4_scheduleRow cX4_scheduleRow 6 (some .int) 2 := ⟨wd_18, wd_260, by decide +kernel⟩
theorem ovX4_scheduleRow : VirOK yX4_scheduleRow := ⟨wd_259, wd_0⟩
def FX4_scheduleRow_94 (k18 : Int32 → Int32 → Int32 → Blk → Option (Int32 × Blk)) (l1 : Int32) (l2 : Int32) (l3 : Int32) (l4 : Int32) (B : Blk) : Option (Int32 × Blk) :=
  ld (B 5) 24 l4 fun v30 =>
  c1 (FX4_endOf B v30) fun r33 =>
  lt1 (if l3 < r33 then r33 else l3) fun x35 =>
  ld (B 4) 24 l4 fun v37 =>
  lt1 (x35 + v37) fun x40 =>
  stb B 6 24 l4 x40 fun B42 =>
  stb B42 7 24 l2 l4 fun B45 =>
  lt1 (l2 + (1 : Int32)) fun x48 =>
  ld (B45 10) 4 l1 fun v50 =>
  stb B45 10 4 l1 (v50 + (1 : Int32)) fun B53 =>
  k18 l1 x48 x40 B53
set_option maxRecDepth 100000 in
set_option maxHeartbeats 4000000 in
theorem wX4_scheduleRow_94 {E : WE} {V : VT} {A : Nat → Prop} {H0 : Heap} {M : Mem} {j : Nat} (hj : j < 11) (Cx : CX E RX4 cX4_scheduleRow 6 1 40) {r : Int32} {B' : Blk} (hret : RetI E V A H0 cX4_scheduleRow .int r (jb M j B')) {k18 : Int32 → Int32 → Int32 → Blk → Option (Int32 × Blk)} (hk18 : ∀ {H : Heap} {locs : List Loc} {ls : Array Slot} {B : Blk} {l1 : Int32} {l2 : Int32} {l3 : Int32}, Wd V A H0 (jb M j B) (eS E) H locs → lv_has ls 6 [(0, .ref (vA V j 1)), (1, .int l1), (2, .int l2), (3, .int l3)] → k18 l1 l2 l3 B = some (r, B') → Wq E H locs 18 ls []) {H : Heap} {locs : List Loc} {ls : Array Slot} {l1 : Int32} {l2 : Int32} {l3 : Int32} {l4 : Int32} {B : Blk} (hW : Wd V A H0 (jb M j B) (eS E) H locs) (hl : lv_has ls 6 [(0, .ref (vA V j 1)), (1, .int l1), (2, .int l2), (3, .int l3), (4, .int l4)]) (hF : FX4_scheduleRow_94 k18 l1 l2 l3 l4 B = some (r, B')) : Wq E H locs 94 ls [] := by
  unfold FX4_scheduleRow_94 at hF
  refine q_aload_n Cx dX4_scheduleRow_94 rfl (lv_at hl 0 rfl) ?_
  refine q_aload_n Cx dX4_scheduleRow_95 rfl (lv_at hl 0 rfl) ?_
  refine q_get (v := .ref (vA V j 5)) Cx hW (oP hj) ic4 3 (by decide) rfl wd_50 dX4_scheduleRow_96 ?_
  refine q_iload Cx dX4_scheduleRow_99 (lv_at hl 4 rfl) ?_
  obtain ⟨h31, v30, e32, hF⟩ := ld_some hF
  refine qb_iald Cx hW (ai_5 hj) h31 e32 dX4_scheduleRow_101 ?_
  obtain ⟨r33, e34, hF⟩ := c1_some hF
  refine q_callI (as := [.int v30]) (rest := []) Cx (kX4_endOf hj e34) okX4_endOf ovX4_endOf wd_265 ⟨rfl, rfl, by decide, by decide⟩ hW (oP hj) ic4 rfl hl.1 (Nat.le_of_ble_eq_true rfl) rfl dX4_scheduleRow_102 (fun H locs hW => ?_)
  refine q_istore (lv' := [(5, .int r33), (0, .ref (vA V j 1)), (1, .int l1), (2, .int l2), (3, .int l3), (4, .int l4)]) Cx dX4_scheduleRow_105 hl (by decide) rfl (fun ls hl => ?_)
  refine q_iload_n Cx dX4_scheduleRow_107 rfl (lv_at hl 4 rfl) ?_
  refine q_iload Cx dX4_scheduleRow_108 (lv_at hl 0 rfl) ?_
  obtain ⟨x35, e36, hF⟩ := lt1_some hF
  refine q_max Cx wd_270 wd_271 wd_23 wd_272 hl.1 (by decide) (Nat.le_of_ble_eq_true rfl) e36.symm dX4_scheduleRow_110 ?_
  refine q_aload_n Cx dX4_scheduleRow_113 rfl (lv_at hl 1 rfl) ?_
  refine q_get (v := .ref (vA V j 4)) Cx hW (oP hj) ic4 2 (by decide) rfl wd_48 dX4_scheduleRow_114 ?_
  refine q_iload Cx dX4_scheduleRow_117 (lv_at hl 5 rfl) ?_
  obtain ⟨h38, v37, e39, hF⟩ := ld_some hF
  refine qb_iald Cx hW (ai_4 hj) h38 e39 dX4_scheduleRow_119 ?_
  refine q_iadd Cx dX4_scheduleRow_120 ?_
  obtain ⟨x40, e41, hF⟩ := lt1_some hF
  refine q_topi e41 ?_
  refine q_istore_n (lv' := [(3, .int x40), (5, .int r33), (0, .ref (vA V j 1)), (1, .int l1), (2, .int l2), (4, .int l4)]) Cx dX4_scheduleRow_121 rfl hl (by decide) rfl (fun ls hl => ?_)
  refine q_aload_n Cx dX4_scheduleRow_122 rfl (lv_at hl 2 rfl) ?_
  refine q_get (v := .ref (vA V j 6)) Cx hW (oP hj) ic4 4 (by decide) rfl wd_52 dX4_scheduleRow_123 ?_
  refine q_iload Cx dX4_scheduleRow_126 (lv_at hl 5 rfl) ?_
  refine q_iload_n Cx dX4_scheduleRow_128 rfl (lv_at hl 0 rfl) ?_
  obtain ⟨h43, B42, e44, hF⟩ := stb_some hF
  refine qb_iast Cx hW (ai_6 hj) h43 e44 dX4_scheduleRow_129 (fun H locs hW => ?_)
  refine q_aload_n Cx dX4_scheduleRow_130 rfl (lv_at hl 2 rfl) ?_
  refine q_get (v := .ref (vA V j 7)) Cx hW (oP hj) ic4 5 (by decide) rfl wd_54 dX4_scheduleRow_131 ?_
  refine q_iload_n Cx dX4_scheduleRow_134 rfl (lv_at hl 4 rfl) ?_
  refine q_iload Cx dX4_scheduleRow_135 (lv_at hl 5 rfl) ?_
  obtain ⟨h46, B45, e47, hF⟩ := stb_some hF
  refine qb_iast Cx hW (ai_7 hj) h46 e47 dX4_scheduleRow_137 (fun H locs hW => ?_)
  obtain ⟨x48, e49, hF⟩ := lt1_some hF
  refine q_iinc (k := 4) (v := x48) (lv' := [(2, .int x48), (3, .int x40), (5, .int r33), (0, .ref (vA V j 1)), (1, .int l1), (4, .int l4)]) Cx dX4_scheduleRow_138 hl rfl e49.symm (by decide) rfl (fun ls hl => ?_)
  refine q_aload_n Cx dX4_scheduleRow_141 rfl (lv_at hl 3 rfl) ?_
  refine q_get (v := .ref (vA V j 10)) Cx hW (oP hj) ic4 8 (by decide) rfl wd_59 dX4_scheduleRow_142 ?_
  refine q_iload_n Cx dX4_scheduleRow_145 rfl (lv_at hl 4 rfl) ?_
  refine q_dup2 Cx dX4_scheduleRow_146 rfl rfl ?_
  obtain ⟨h51, v50, e52, hF⟩ := ld_some hF
  refine qb_iald Cx hW (ai_10 hj) h51 e52 dX4_scheduleRow_147 ?_
  refine q_iconst (v := (1 : Int32)) Cx dX4_scheduleRow_148 (by decide) ?_
  refine q_iadd Cx dX4_scheduleRow_149 ?_
  obtain ⟨h54, B53, e55, hF⟩ := stb_some hF
  refine qb_iast Cx hW (ai_10 hj) h54 e55 dX4_scheduleRow_150 (fun H locs hW => ?_)
  refine q_goto (tgt := 18) Cx dX4_scheduleRow_151 (by decide) ?_
  exact hk18 hW (lv_sub hl [3, 4, 0, 1] rfl) hF
def FX4_scheduleRow_18s (k18 : Int32 → Int32 → Int32 → Blk → Option (Int32 × Blk)) (l1 : Int32) (l2 : Int32) (l3 : Int32) (B : Blk) : Option (Int32 × Blk) :=
  ld (B 10) 4 l1 fun v8 =>
  ld (B 9) 4 l1 fun v11 =>
  if v11 ≤ v8 then
    some (l2, B)
  else
    if ((B 1) 0) ≤ l2 then
      some (l2, B)
    else
      ld (B 10) 4 l1 fun v16 =>
      c1 (FX4_inRow B l1 v16) fun r19 =>
      c1 (FX4_has B r19) fun r21 =>
      if r21 = 0 then
        some (l2, B)
      else
        ld (B 5) 24 r19 fun v24 =>
        c1 (FX4_has B v24) fun r27 =>
        if r27 = 0 then
          FX4_scheduleRow_94 k18 l1 l2 l3 r19 B
        else
          ld (B 5) 24 r19 fun v56 =>
          c1 (FX4_endOf B v56) fun r59 =>
          if r59 = 0 then
            some (l2, B)
          else
            FX4_scheduleRow_94 k18 l1 l2 l3 r19 B
set_option maxRecDepth 100000 in
set_option maxHeartbeats 4000000 in
theorem wX4_scheduleRow_18s {E : WE} {V : VT} {A : Nat → Prop} {H0 : Heap} {M : Mem} {j : Nat} (hj : j < 11) (Cx : CX E RX4 cX4_scheduleRow 6 1 40) {r : Int32} {B' : Blk} (hret : RetI E V A H0 cX4_scheduleRow .int r (jb M j B')) {k18 : Int32 → Int32 → Int32 → Blk → Option (Int32 × Blk)} (hk18 : ∀ {H : Heap} {locs : List Loc} {ls : Array Slot} {B : Blk} {l1 : Int32} {l2 : Int32} {l3 : Int32}, Wd V A H0 (jb M j B) (eS E) H locs → lv_has ls 6 [(0, .ref (vA V j 1)), (1, .int l1), (2, .int l2), (3, .int l3)] → k18 l1 l2 l3 B = some (r, B') → Wq E H locs 18 ls []) {H : Heap} {locs : List Loc} {ls : Array Slot} {l1 : Int32} {l2 : Int32} {l3 : Int32} {B : Blk} (hW : Wd V A H0 (jb M j B) (eS E) H locs) (hl : lv_has ls 6 [(0, .ref (vA V j 1)), (1, .int l1), (2, .int l2), (3, .int l3)]) (hF : FX4_scheduleRow_18s k18 l1 l2 l3 B = some (r, B')) : Wq E H locs 18 ls [] := by
  unfold FX4_scheduleRow_18s at hF
  refine q_aload_n Cx dX4_scheduleRow_18 rfl (lv_at hl 0 rfl) ?_
  refine q_get (v := .ref (vA V j 10)) Cx hW (oP hj) ic4 8 (by decide) rfl wd_59 dX4_scheduleRow_19 ?_
  refine q_iload_n Cx dX4_scheduleRow_22 rfl (lv_at hl 1 rfl) ?_
  obtain ⟨h9, v8, e10, hF⟩ := ld_some hF
  refine qb_iald Cx hW (ai_10 hj) h9 e10 dX4_scheduleRow_23 ?_
  refine q_aload_n Cx dX4_scheduleRow_24 rfl (lv_at hl 0 rfl) ?_
  refine q_get (v := .ref (vA V j 9)) Cx hW (oP hj) ic4 7 (by decide) rfl wd_57 dX4_scheduleRow_25 ?_
  refine q_iload_n Cx dX4_scheduleRow_28 rfl (lv_at hl 1 rfl) ?_
  obtain ⟨h12, v11, e13, hF⟩ := ld_some hF
  refine qb_iald Cx hW (ai_9 hj) h12 e13 dX4_scheduleRow_29 ?_
  refine q_icmp_ge (tgt := 154) Cx dX4_scheduleRow_30 (by decide) (fun c14 => ?_) (fun c14 => ?_)
  · have hF := (if_pos c14).symm.trans hF
    refine q_iload_n Cx dX4_scheduleRow_154 rfl (lv_at hl 2 rfl) ?_
    obtain ⟨rfl, rfl⟩ := Prod.mk.inj (Option.some.inj hF)
    exact hret _ _ _ _ dX4_scheduleRow_155 (nI32 _) hW
  · have hF := (if_neg c14).symm.trans hF
    refine q_iload_n Cx dX4_scheduleRow_33 rfl (lv_at hl 2 rfl) ?_
    refine q_aload_n Cx dX4_scheduleRow_34 rfl (lv_at hl 0 rfl) ?_
    refine qb_get (v := .int ((B 1) 0)) Cx hW (oP hj) ic4 0 (by decide) rfl wd_44 dX4_scheduleRow_35 ?_
    refine q_icmp_ge (tgt := 154) Cx dX4_scheduleRow_38 (by decide) (fun c15 => ?_) (fun c15 => ?_)
    · have hF := (if_pos c15).symm.trans hF
      refine q_iload_n Cx dX4_scheduleRow_154 rfl (lv_at hl 2 rfl) ?_
      obtain ⟨rfl, rfl⟩ := Prod.mk.inj (Option.some.inj hF)
      exact hret _ _ _ _ dX4_scheduleRow_155 (nI32 _) hW
    · have hF := (if_neg c15).symm.trans hF
      refine q_aload_n Cx dX4_scheduleRow_41 rfl (lv_at hl 0 rfl) ?_
      refine q_iload_n Cx dX4_scheduleRow_42 rfl (lv_at hl 1 rfl) ?_
      refine q_aload_n Cx dX4_scheduleRow_43 rfl (lv_at hl 0 rfl) ?_
      refine q_get (v := .ref (vA V j 10)) Cx hW (oP hj) ic4 8 (by decide) rfl wd_59 dX4_scheduleRow_44 ?_
      refine q_iload_n Cx dX4_scheduleRow_47 rfl (lv_at hl 1 rfl) ?_
      obtain ⟨h17, v16, e18, hF⟩ := ld_some hF
      refine qb_iald Cx hW (ai_10 hj) h17 e18 dX4_scheduleRow_48 ?_
      obtain ⟨r19, e20, hF⟩ := c1_some hF
      refine q_callI (as := [.int l1, .int v16]) (rest := []) Cx (kX4_inRow hj e20) okX4_inRow ovX4_inRow wd_261 ⟨rfl, rfl, by decide, by decide⟩ hW (oP hj) ic4 rfl hl.1 (Nat.le_of_ble_eq_true rfl) rfl dX4_scheduleRow_49 (fun H locs hW => ?_)
      refine q_istore (lv' := [(4, .int r19), (0, .ref (vA V j 1)), (1, .int l1), (2, .int l2), (3, .int l3)]) Cx dX4_scheduleRow_52 hl (by decide) rfl (fun ls hl => ?_)
      refine q_aload_n Cx dX4_scheduleRow_54 rfl (lv_at hl 1 rfl) ?_
      refine q_iload Cx dX4_scheduleRow_55 (lv_at hl 0 rfl) ?_
      obtain ⟨r21, e22, hF⟩ := c1_some hF
      refine q_callI (as := [.int r19]) (rest := []) Cx (kX4_has hj e22) okX4_has ovX4_has wd_269 ⟨rfl, rfl, by decide, by decide⟩ hW (oP hj) ic4 rfl hl.1 (Nat.le_of_ble_eq_true rfl) rfl dX4_scheduleRow_57 (fun H locs hW => ?_)
      refine q_if_eq (tgt := 154) Cx dX4_scheduleRow_60 (by decide) (fun c23 => ?_) (fun c23 => ?_)
      · have hF := (if_pos c23).symm.trans hF
        refine q_iload_n Cx dX4_scheduleRow_154 rfl (lv_at hl 3 rfl) ?_
        obtain ⟨rfl, rfl⟩ := Prod.mk.inj (Option.some.inj hF)
        exact hret _ _ _ _ dX4_scheduleRow_155 (nI32 _) hW
      · have hF := (if_neg c23).symm.trans hF
        refine q_aload_n Cx dX4_scheduleRow_63 rfl (lv_at hl 1 rfl) ?_
        refine q_aload_n Cx dX4_scheduleRow_64 rfl (lv_at hl 1 rfl) ?_
        refine q_get (v := .ref (vA V j 5)) Cx hW (oP hj) ic4 3 (by decide) rfl wd_50 dX4_scheduleRow_65 ?_
        refine q_iload Cx dX4_scheduleRow_68 (lv_at hl 0 rfl) ?_
        obtain ⟨h25, v24, e26, hF⟩ := ld_some hF
        refine qb_iald Cx hW (ai_5 hj) h25 e26 dX4_scheduleRow_70 ?_
        obtain ⟨r27, e28, hF⟩ := c1_some hF
        refine q_callI (as := [.int v24]) (rest := []) Cx (kX4_has hj e28) okX4_has ovX4_has wd_269 ⟨rfl, rfl, by decide, by decide⟩ hW (oP hj) ic4 rfl hl.1 (Nat.le_of_ble_eq_true rfl) rfl dX4_scheduleRow_71 (fun H locs hW => ?_)
        refine q_if_eq (tgt := 94) Cx dX4_scheduleRow_74 (by decide) (fun c29 => ?_) (fun c29 => ?_)
        · have hF := (if_pos c29).symm.trans hF
          exact wX4_scheduleRow_94 hj Cx hret hk18 hW (lv_sub hl [1, 2, 3, 4, 0] rfl) hF
        · have hF := (if_neg c29).symm.trans hF
          refine q_aload_n Cx dX4_scheduleRow_77 rfl (lv_at hl 1 rfl) ?_
          refine q_aload_n Cx dX4_scheduleRow_78 rfl (lv_at hl 1 rfl) ?_
          refine q_get (v := .ref (vA V j 5)) Cx hW (oP hj) ic4 3 (by decide) rfl wd_50 dX4_scheduleRow_79 ?_
          refine q_iload Cx dX4_scheduleRow_82 (lv_at hl 0 rfl) ?_
          obtain ⟨h57, v56, e58, hF⟩ := ld_some hF
          refine qb_iald Cx hW (ai_5 hj) h57 e58 dX4_scheduleRow_84 ?_
          obtain ⟨r59, e60, hF⟩ := c1_some hF
          refine q_callI (as := [.int v56]) (rest := []) Cx (kX4_endOf hj e60) okX4_endOf ovX4_endOf wd_265 ⟨rfl, rfl, by decide, by decide⟩ hW (oP hj) ic4 rfl hl.1 (Nat.le_of_ble_eq_true rfl) rfl dX4_scheduleRow_85 (fun H locs hW => ?_)
          refine q_if_ne (tgt := 94) Cx dX4_scheduleRow_88 (by decide) (fun c61 => ?_) (fun c61 => ?_)
          · have hF := (if_neg c61).symm.trans hF
            exact wX4_scheduleRow_94 hj Cx hret hk18 hW (lv_sub hl [1, 2, 3, 4, 0] rfl) hF
          · have hF := (if_pos c61).symm.trans hF
            refine q_goto (tgt := 154) Cx dX4_scheduleRow_91 (by decide) ?_
            refine q_iload_n Cx dX4_scheduleRow_154 rfl (lv_at hl 3 rfl) ?_
            obtain ⟨rfl, rfl⟩ := Prod.mk.inj (Option.some.inj hF)
            exact hret _ _ _ _ dX4_scheduleRow_155 (nI32 _) hW
def FX4_scheduleRow_18 : Nat → Int32 → Int32 → Int32 → Blk → Option (Int32 × Blk)
  | 0 => fun _ _ _ _ => none
  | n + 1 => FX4_scheduleRow_18s (FX4_scheduleRow_18 n)
set_option maxRecDepth 100000 in
theorem wX4_scheduleRow_18 {E : WE} {V : VT} {A : Nat → Prop} {H0 : Heap} {M : Mem} {j : Nat} (hj : j < 11) (Cx : CX E RX4 cX4_scheduleRow 6 1 40) {r : Int32} {B' : Blk} (hret : RetI E V A H0 cX4_scheduleRow .int r (jb M j B')) : ∀ (n : Nat) {H : Heap} {locs : List Loc} {ls : Array Slot} {l1 : Int32} {l2 : Int32} {l3 : Int32} {B : Blk}, Wd V A H0 (jb M j B) (eS E) H locs → lv_has ls 6 [(0, .ref (vA V j 1)), (1, .int l1), (2, .int l2), (3, .int l3)] → FX4_scheduleRow_18 n l1 l2 l3 B = some (r, B') → Wq E H locs 18 ls [] := by
  intro n
  induction n with
  | zero => intro _ _ _ _ _ _ _ hW hl hF; cases hF
  | succ n ih => intro _ _ _ _ _ _ _ hW hl hF; exact wX4_scheduleRow_18s hj Cx hret ih hW hl hF
def FX4_scheduleRow (B : Blk) (l1 : Int32) (l2 : Int32) : Option (Int32 × Blk) :=
  ld (B 10) 4 l1 fun v1 =>
  c1 (FX4_inRow B l1 (v1 - (1 : Int32))) fun r4 =>
  c1 (FX4_endOf B r4) fun r6 =>
  FX4_scheduleRow_18 fu l1 l2 r6 B
set_option maxRecDepth 100000 in
set_option maxHeartbeats 4000000 in
theorem wX4_scheduleRow {E : WE} {V : VT} {A : Nat → Prop} {H0 : Heap} {M : Mem} {j : Nat} (hj : j < 11) (Cx : CX E RX4 cX4_scheduleRow 6 1 40) {r : Int32} {B' : Blk} (hret : RetI E V A H0 cX4_scheduleRow .int r (jb M j B')) {H : Heap} {locs : List Loc} {ls : Array Slot} {l1 : Int32} {l2 : Int32} {B : Blk} (hW : Wd V A H0 (jb M j B) (eS E) H locs) (hl : lv_has ls 6 [(0, .ref (vA V j 1)), (1, .int l1), (2, .int l2)]) (hF : FX4_scheduleRow B l1 l2 = some (r, B')) : Wq E H locs 0 ls [] := by
  unfold FX4_scheduleRow at hF
  refine q_aload_n Cx dX4_scheduleRow_0 rfl (lv_at hl 0 rfl) ?_
  refine q_aload_n Cx dX4_scheduleRow_1 rfl (lv_at hl 0 rfl) ?_
  refine q_iload_n Cx dX4_scheduleRow_2 rfl (lv_at hl 1 rfl) ?_
  refine q_aload_n Cx dX4_scheduleRow_3 rfl (lv_at hl 0 rfl) ?_
  refine q_get (v := .ref (vA V j 10)) Cx hW (oP hj) ic4 8 (by decide) rfl wd_59 dX4_scheduleRow_4 ?_
  refine q_iload_n Cx dX4_scheduleRow_7 rfl (lv_at hl 1 rfl) ?_
  obtain ⟨h2, v1, e3, hF⟩ := ld_some hF
  refine qb_iald Cx hW (ai_10 hj) h2 e3 dX4_scheduleRow_8 ?_
  refine q_iconst (v := (1 : Int32)) Cx dX4_scheduleRow_9 (by decide) ?_
  refine q_isub Cx dX4_scheduleRow_10 ?_
  obtain ⟨r4, e5, hF⟩ := c1_some hF
  refine q_callI (as := [.int l1, .int (v1 - (1 : Int32))]) (rest := [.ref (vA V j 1)]) Cx (kX4_inRow hj e5) okX4_inRow ovX4_inRow wd_261 ⟨rfl, rfl, by decide, by decide⟩ hW (oP hj) ic4 rfl hl.1 (Nat.le_of_ble_eq_true rfl) rfl dX4_scheduleRow_11 (fun H locs hW => ?_)
  obtain ⟨r6, e7, hF⟩ := c1_some hF
  refine q_callI (as := [.int r4]) (rest := []) Cx (kX4_endOf hj e7) okX4_endOf ovX4_endOf wd_265 ⟨rfl, rfl, by decide, by decide⟩ hW (oP hj) ic4 rfl hl.1 (Nat.le_of_ble_eq_true rfl) rfl dX4_scheduleRow_14 (fun H locs hW => ?_)
  refine q_istore_n (lv' := [(3, .int r6), (0, .ref (vA V j 1)), (1, .int l1), (2, .int l2)]) Cx dX4_scheduleRow_17 rfl hl (by decide) rfl (fun ls hl => ?_)
  exact wX4_scheduleRow_18 hj Cx hret fu hW (lv_sub hl [1, 2, 3, 0] rfl) hF
set_option maxRecDepth 100000 in
theorem kX4_scheduleRow {l : Launch} {V : VT} {M : Mem} {j : Nat} (hj : j < 11) {B : Blk} {l1 : Int32} {l2 : Int32} {r : Int32} {B' : Blk} (hF : FX4_scheduleRow B l1 l2 = some (r, B')) : MetI l V yX4_scheduleRow cX4_scheduleRow 6 .int ({ frames := 1, cells := 0, slots := 0, locals := 40 } : Room) [.ref (vA V j 1), .int l1, .int l2] r (jb M j B) (jb M j B') := metI_of (by decide) (Nat.le_of_ble_eq_true rfl) (fun E H0 _ Cx hret H locs ls hW hl => wX4_scheduleRow hj Cx hret hW hl hF)
theorem dX4_schedule_0 : decode cX4_schedule 0 = .ok (.iconst 0, 1) := by decide +kernel
theorem dX4_schedule_1 : decode cX4_schedule 1 = .ok (.istore_n 1, 1) := by decide +kernel
theorem dX4_schedule_2 : decode cX4_schedule 2 = .ok (.iload_n 1, 1) := by decide +kernel
theorem dX4_schedule_3 : decode cX4_schedule 3 = .ok (.iconst 4, 1) := by decide +kernel
theorem dX4_schedule_4 : decode cX4_schedule 4 = .ok (.if_icmp .ge 16, 3) := by decide +kernel
theorem dX4_schedule_7 : decode cX4_schedule 7 = .ok (.aload_n 0, 1) := by decide +kernel
theorem dX4_schedule_8 : decode cX4_schedule 8 = .ok (.getfield 33, 3) := by decide +kernel
theorem dX4_schedule_11 : decode cX4_schedule 11 = .ok (.iload_n 1, 1) := by decide +kernel
theorem dX4_schedule_12 : decode cX4_schedule 12 = .ok (.iconst 0, 1) := by decide +kernel
theorem dX4_schedule_13 : decode cX4_schedule 13 = .ok (.iastore, 1) := by decide +kernel
theorem dX4_schedule_14 : decode cX4_schedule 14 = .ok (.iinc 1 1, 3) := by decide +kernel
theorem dX4_schedule_17 : decode cX4_schedule 17 = .ok (.goto (-15), 3) := by decide +kernel
theorem dX4_schedule_20 : decode cX4_schedule 20 = .ok (.iconst 0, 1) := by decide +kernel
theorem dX4_schedule_21 : decode cX4_schedule 21 = .ok (.istore_n 1, 1) := by decide +kernel
theorem dX4_schedule_22 : decode cX4_schedule 22 = .ok (.iload_n 1, 1) := by decide +kernel
theorem dX4_schedule_23 : decode cX4_schedule 23 = .ok (.aload_n 0, 1) := by decide +kernel
theorem dX4_schedule_24 : decode cX4_schedule 24 = .ok (.getfield 39, 3) := by decide +kernel
theorem dX4_schedule_27 : decode cX4_schedule 27 = .ok (.if_icmp .ge 16, 3) := by decide +kernel
theorem dX4_schedule_30 : decode cX4_schedule 30 = .ok (.aload_n 0, 1) := by decide +kernel
theorem dX4_schedule_31 : decode cX4_schedule 31 = .ok (.getfield 21, 3) := by decide +kernel
theorem dX4_schedule_34 : decode cX4_schedule 34 = .ok (.iload_n 1, 1) := by decide +kernel
theorem dX4_schedule_35 : decode cX4_schedule 35 = .ok (.iconst 0, 1) := by decide +kernel
theorem dX4_schedule_36 : decode cX4_schedule 36 = .ok (.iastore, 1) := by decide +kernel
theorem dX4_schedule_37 : decode cX4_schedule 37 = .ok (.iinc 1 1, 3) := by decide +kernel
theorem dX4_schedule_40 : decode cX4_schedule 40 = .ok (.goto (-18), 3) := by decide +kernel
theorem dX4_schedule_43 : decode cX4_schedule 43 = .ok (.iconst 0, 1) := by decide +kernel
theorem dX4_schedule_44 : decode cX4_schedule 44 = .ok (.istore_n 1, 1) := by decide +kernel
theorem dX4_schedule_45 : decode cX4_schedule 45 = .ok (.iconst 0, 1) := by decide +kernel
theorem dX4_schedule_46 : decode cX4_schedule 46 = .ok (.istore_n 2, 1) := by decide +kernel
theorem dX4_schedule_47 : decode cX4_schedule 47 = .ok (.iload_n 2, 1) := by decide +kernel
theorem dX4_schedule_48 : decode cX4_schedule 48 = .ok (.aload_n 0, 1) := by decide +kernel
theorem dX4_schedule_49 : decode cX4_schedule 49 = .ok (.getfield 39, 3) := by decide +kernel
theorem dX4_schedule_52 : decode cX4_schedule 52 = .ok (.if_icmp .ge 37, 3) := by decide +kernel
theorem dX4_schedule_55 : decode cX4_schedule 55 = .ok (.iload_n 1, 1) := by decide +kernel
theorem dX4_schedule_56 : decode cX4_schedule 56 = .ok (.aload_n 0, 1) := by decide +kernel
theorem dX4_schedule_57 : decode cX4_schedule 57 = .ok (.getfield 39, 3) := by decide +kernel
theorem dX4_schedule_60 : decode cX4_schedule 60 = .ok (.if_icmp .ge 29, 3) := by decide +kernel
theorem dX4_schedule_63 : decode cX4_schedule 63 = .ok (.iconst 0, 1) := by decide +kernel
theorem dX4_schedule_64 : decode cX4_schedule 64 = .ok (.istore_n 3, 1) := by decide +kernel
theorem dX4_schedule_65 : decode cX4_schedule 65 = .ok (.iload_n 3, 1) := by decide +kernel
theorem dX4_schedule_66 : decode cX4_schedule 66 = .ok (.iconst 4, 1) := by decide +kernel
theorem dX4_schedule_67 : decode cX4_schedule 67 = .ok (.if_icmp .ge 16, 3) := by decide +kernel
theorem dX4_schedule_70 : decode cX4_schedule 70 = .ok (.aload_n 0, 1) := by decide +kernel
theorem dX4_schedule_71 : decode cX4_schedule 71 = .ok (.iload_n 3, 1) := by decide +kernel
theorem dX4_schedule_72 : decode cX4_schedule 72 = .ok (.iload_n 1, 1) := by decide +kernel
theorem dX4_schedule_73 : decode cX4_schedule 73 = .ok (.invokevirtual 62, 3) := by decide +kernel
theorem dX4_schedule_76 : decode cX4_schedule 76 = .ok (.istore_n 1, 1) := by decide +kernel
theorem dX4_schedule_77 : decode cX4_schedule 77 = .ok (.iinc 3 1, 3) := by decide +kernel
theorem dX4_schedule_80 : decode cX4_schedule 80 = .ok (.goto (-15), 3) := by decide +kernel
theorem dX4_schedule_83 : decode cX4_schedule 83 = .ok (.iinc 2 1, 3) := by decide +kernel
theorem dX4_schedule_86 : decode cX4_schedule 86 = .ok (.goto (-39), 3) := by decide +kernel
theorem dX4_schedule_89 : decode cX4_schedule 89 = .ok (.iload_n 1, 1) := by decide +kernel
theorem dX4_schedule_90 : decode cX4_schedule 90 = .ok (.aload_n 0, 1) := by decide +kernel
theorem dX4_schedule_91 : decode cX4_schedule 91 = .ok (.getfield 39, 3) := by decide +kernel
theorem dX4_schedule_94 : decode cX4_schedule 94 = .ok (.if_icmp .ne 7, 3) := by decide +kernel
theorem dX4_schedule_97 : decode cX4_schedule 97 = .ok (.iconst 1, 1) := by decide +kernel
theorem dX4_schedule_98 : decode cX4_schedule 98 = .ok (.goto 4, 3) := by decide +kernel
theorem dX4_schedule_101 : decode cX4_schedule 101 = .ok (.iconst 0, 1) := by decide +kernel
theorem dX4_schedule_102 : decode cX4_schedule 102 = .ok (.ireturn, 1) := by decide +kernel
theorem okX4_schedule : CalOK yX4_schedule cX4_schedule 4 (some .boolean) 0 := ⟨wd_18, wd_256, by decide +kernel⟩
theorem ovX4_schedule : VirOK yX4_schedule := ⟨wd_254, wd_255⟩
def FX4_schedule_89 (l1 : Int32) (B : Blk) : Option (Int32 × Blk) :=
  if l1 = ((B 1) 0) then
    some ((1 : Int32), B)
  else
    some ((0 : Int32), B)
set_option maxRecDepth 100000 in
set_option maxHeartbeats 4000000 in
theorem wX4_schedule_89 {E : WE} {V : VT} {A : Nat → Prop} {H0 : Heap} {M : Mem} {j : Nat} (hj : j < 11) (Cx : CX E RX4 cX4_schedule 4 2 65) {r : Int32} {B' : Blk} (hret : RetI E V A H0 cX4_schedule .boolean r (jb M j B')) {H : Heap} {locs : List Loc} {ls : Array Slot} {l1 : Int32} {B : Blk} (hW : Wd V A H0 (jb M j B) (eS E) H locs) (hl : lv_has ls 4 [(0, .ref (vA V j 1)), (1, .int l1)]) (hF : FX4_schedule_89 l1 B = some (r, B')) : Wq E H locs 89 ls [] := by
  unfold FX4_schedule_89 at hF
  refine q_iload_n Cx dX4_schedule_89 rfl (lv_at hl 1 rfl) ?_
  refine q_aload_n Cx dX4_schedule_90 rfl (lv_at hl 0 rfl) ?_
  refine qb_get (v := .int ((B 1) 0)) Cx hW (oP hj) ic4 0 (by decide) rfl wd_44 dX4_schedule_91 ?_
  refine q_icmp_ne (tgt := 101) Cx dX4_schedule_94 (by decide) (fun c4 => ?_) (fun c4 => ?_)
  · have hF := (if_neg c4).symm.trans hF
    refine q_iconst (v := (0 : Int32)) Cx dX4_schedule_101 (by decide) ?_
    obtain ⟨rfl, rfl⟩ := Prod.mk.inj (Option.some.inj hF)
    exact hret _ _ _ _ dX4_schedule_102 (by rfl) hW
  · have hF := (if_pos c4).symm.trans hF
    refine q_iconst (v := (1 : Int32)) Cx dX4_schedule_97 (by decide) ?_
    refine q_goto (tgt := 102) Cx dX4_schedule_98 (by decide) ?_
    obtain ⟨rfl, rfl⟩ := Prod.mk.inj (Option.some.inj hF)
    exact hret _ _ _ _ dX4_schedule_102 (by rfl) hW
def FX4_schedule_65s (k47 : Int32 → Int32 → Blk → Option (Int32 × Blk)) (k65 : Int32 → Int32 → Int32 → Blk → Option (Int32 × Blk)) (l1 : Int32) (l2 : Int32) (l3 : Int32) (B : Blk) : Option (Int32 × Blk) :=
  if (4 : Int32) ≤ l3 then
    lt1 (l2 + (1 : Int32)) fun x7 =>
    k47 l1 x7 B
  else
    c2 (FX4_scheduleRow B l3 l1) fun r9 B11 =>
    lt1 (l3 + (1 : Int32)) fun x12 =>
    k65 r9 l2 x12 B11
set_option maxRecDepth 100000 in
set_option maxHeartbeats 4000000 in
theorem wX4_schedule_65s {E : WE} {V : VT} {A : Nat → Prop} {H0 : Heap} {M : Mem} {j : Nat} (hj : j < 11) (Cx : CX E RX4 cX4_schedule 4 2 65) {r : Int32} {B' : Blk} (hret : RetI E V A H0 cX4_schedule .boolean r (jb M j B')) {k47 : Int32 → Int32 → Blk → Option (Int32 × Blk)} (hk47 : ∀ {H : Heap} {locs : List Loc} {ls : Array Slot} {B : Blk} {l1 : Int32} {l2 : Int32}, Wd V A H0 (jb M j B) (eS E) H locs → lv_has ls 4 [(0, .ref (vA V j 1)), (1, .int l1), (2, .int l2)] → k47 l1 l2 B = some (r, B') → Wq E H locs 47 ls []) {k65 : Int32 → Int32 → Int32 → Blk → Option (Int32 × Blk)} (hk65 : ∀ {H : Heap} {locs : List Loc} {ls : Array Slot} {B : Blk} {l1 : Int32} {l2 : Int32} {l3 : Int32}, Wd V A H0 (jb M j B) (eS E) H locs → lv_has ls 4 [(0, .ref (vA V j 1)), (1, .int l1), (2, .int l2), (3, .int l3)] → k65 l1 l2 l3 B = some (r, B') → Wq E H locs 65 ls []) {H : Heap} {locs : List Loc} {ls : Array Slot} {l1 : Int32} {l2 : Int32} {l3 : Int32} {B : Blk} (hW : Wd V A H0 (jb M j B) (eS E) H locs) (hl : lv_has ls 4 [(0, .ref (vA V j 1)), (1, .int l1), (2, .int l2), (3, .int l3)]) (hF : FX4_schedule_65s k47 k65 l1 l2 l3 B = some (r, B')) : Wq E H locs 65 ls [] := by
  unfold FX4_schedule_65s at hF
  refine q_iload_n Cx dX4_schedule_65 rfl (lv_at hl 3 rfl) ?_
  refine q_iconst (v := (4 : Int32)) Cx dX4_schedule_66 (by decide) ?_
  refine q_icmp_ge (tgt := 83) Cx dX4_schedule_67 (by decide) (fun c6 => ?_) (fun c6 => ?_)
  · have hF := (if_pos c6).symm.trans hF
    obtain ⟨x7, e8, hF⟩ := lt1_some hF
    refine q_iinc (k := 2) (v := x7) (lv' := [(2, .int x7), (0, .ref (vA V j 1)), (1, .int l1), (3, .int l3)]) Cx dX4_schedule_83 hl rfl e8.symm (by decide) rfl (fun ls hl => ?_)
    refine q_goto (tgt := 47) Cx dX4_schedule_86 (by decide) ?_
    exact hk47 hW (lv_sub hl [1, 2, 0] rfl) hF
  · have hF := (if_neg c6).symm.trans hF
    refine q_aload_n Cx dX4_schedule_70 rfl (lv_at hl 0 rfl) ?_
    refine q_iload_n Cx dX4_schedule_71 rfl (lv_at hl 3 rfl) ?_
    refine q_iload_n Cx dX4_schedule_72 rfl (lv_at hl 1 rfl) ?_
    obtain ⟨r9, B11, e10, hF⟩ := c2_some hF
    refine q_callI (as := [.int l3, .int l1]) (rest := []) Cx (kX4_scheduleRow hj e10) okX4_scheduleRow ovX4_scheduleRow wd_257 ⟨rfl, rfl, by decide, by decide⟩ hW (oP hj) ic4 rfl hl.1 (Nat.le_of_ble_eq_true rfl) rfl dX4_schedule_73 (fun H locs hW => ?_)
    refine q_istore_n (lv' := [(1, .int r9), (0, .ref (vA V j 1)), (2, .int l2), (3, .int l3)]) Cx dX4_schedule_76 rfl hl (by decide) rfl (fun ls hl => ?_)
    obtain ⟨x12, e13, hF⟩ := lt1_some hF
    refine q_iinc (k := 3) (v := x12) (lv' := [(3, .int x12), (1, .int r9), (0, .ref (vA V j 1)), (2, .int l2)]) Cx dX4_schedule_77 hl rfl e13.symm (by decide) rfl (fun ls hl => ?_)
    refine q_goto (tgt := 65) Cx dX4_schedule_80 (by decide) ?_
    exact hk65 hW (lv_sub hl [2, 1, 3, 0] rfl) hF
def FX4_schedule_65 (k47 : Int32 → Int32 → Blk → Option (Int32 × Blk)) : Nat → Int32 → Int32 → Int32 → Blk → Option (Int32 × Blk)
  | 0 => fun _ _ _ _ => none
  | n + 1 => FX4_schedule_65s k47 (FX4_schedule_65 k47 n)
set_option maxRecDepth 100000 in
theorem wX4_schedule_65 {E : WE} {V : VT} {A : Nat → Prop} {H0 : Heap} {M : Mem} {j : Nat} (hj : j < 11) (Cx : CX E RX4 cX4_schedule 4 2 65) {r : Int32} {B' : Blk} (hret : RetI E V A H0 cX4_schedule .boolean r (jb M j B')) {k47 : Int32 → Int32 → Blk → Option (Int32 × Blk)} (hk47 : ∀ {H : Heap} {locs : List Loc} {ls : Array Slot} {B : Blk} {l1 : Int32} {l2 : Int32}, Wd V A H0 (jb M j B) (eS E) H locs → lv_has ls 4 [(0, .ref (vA V j 1)), (1, .int l1), (2, .int l2)] → k47 l1 l2 B = some (r, B') → Wq E H locs 47 ls []) : ∀ (n : Nat) {H : Heap} {locs : List Loc} {ls : Array Slot} {l1 : Int32} {l2 : Int32} {l3 : Int32} {B : Blk}, Wd V A H0 (jb M j B) (eS E) H locs → lv_has ls 4 [(0, .ref (vA V j 1)), (1, .int l1), (2, .int l2), (3, .int l3)] → FX4_schedule_65 k47 n l1 l2 l3 B = some (r, B') → Wq E H locs 65 ls [] := by
  intro n
  induction n with
  | zero => intro _ _ _ _ _ _ _ hW hl hF; cases hF
  | succ n ih => intro _ _ _ _ _ _ _ hW hl hF; exact wX4_schedule_65s hj Cx hret hk47 ih hW hl hF
def FX4_schedule_47s (k47 : Int32 → Int32 → Blk → Option (Int32 × Blk)) (l1 : Int32) (l2 : Int32) (B : Blk) : Option (Int32 × Blk) :=
  if ((B 1) 0) ≤ l2 then
    FX4_schedule_89 l1 B
  else
    if ((B 1) 0) ≤ l1 then
      FX4_schedule_89 l1 B
    else
      FX4_schedule_65 k47 fu l1 l2 (0 : Int32) B
set_option maxRecDepth 100000 in
set_option maxHeartbeats 4000000 in
theorem wX4_schedule_47s {E : WE} {V : VT} {A : Nat → Prop} {H0 : Heap} {M : Mem} {j : Nat} (hj : j < 11) (Cx : CX E RX4 cX4_schedule 4 2 65) {r : Int32} {B' : Blk} (hret : RetI E V A H0 cX4_schedule .boolean r (jb M j B')) {k47 : Int32 → Int32 → Blk → Option (Int32 × Blk)} (hk47 : ∀ {H : Heap} {locs : List Loc} {ls : Array Slot} {B : Blk} {l1 : Int32} {l2 : Int32}, Wd V A H0 (jb M j B) (eS E) H locs → lv_has ls 4 [(0, .ref (vA V j 1)), (1, .int l1), (2, .int l2)] → k47 l1 l2 B = some (r, B') → Wq E H locs 47 ls []) {H : Heap} {locs : List Loc} {ls : Array Slot} {l1 : Int32} {l2 : Int32} {B : Blk} (hW : Wd V A H0 (jb M j B) (eS E) H locs) (hl : lv_has ls 4 [(0, .ref (vA V j 1)), (1, .int l1), (2, .int l2)]) (hF : FX4_schedule_47s k47 l1 l2 B = some (r, B')) : Wq E H locs 47 ls [] := by
  unfold FX4_schedule_47s at hF
  refine q_iload_n Cx dX4_schedule_47 rfl (lv_at hl 2 rfl) ?_
  refine q_aload_n Cx dX4_schedule_48 rfl (lv_at hl 0 rfl) ?_
  refine qb_get (v := .int ((B 1) 0)) Cx hW (oP hj) ic4 0 (by decide) rfl wd_44 dX4_schedule_49 ?_
  refine q_icmp_ge (tgt := 89) Cx dX4_schedule_52 (by decide) (fun c3 => ?_) (fun c3 => ?_)
  · have hF := (if_pos c3).symm.trans hF
    exact wX4_schedule_89 hj Cx hret hW (lv_sub hl [0, 1] rfl) hF
  · have hF := (if_neg c3).symm.trans hF
    refine q_iload_n Cx dX4_schedule_55 rfl (lv_at hl 1 rfl) ?_
    refine q_aload_n Cx dX4_schedule_56 rfl (lv_at hl 0 rfl) ?_
    refine qb_get (v := .int ((B 1) 0)) Cx hW (oP hj) ic4 0 (by decide) rfl wd_44 dX4_schedule_57 ?_
    refine q_icmp_ge (tgt := 89) Cx dX4_schedule_60 (by decide) (fun c5 => ?_) (fun c5 => ?_)
    · have hF := (if_pos c5).symm.trans hF
      exact wX4_schedule_89 hj Cx hret hW (lv_sub hl [0, 1] rfl) hF
    · have hF := (if_neg c5).symm.trans hF
      refine q_iconst (v := (0 : Int32)) Cx dX4_schedule_63 (by decide) ?_
      refine q_istore_n (lv' := [(3, .int (0 : Int32)), (0, .ref (vA V j 1)), (1, .int l1), (2, .int l2)]) Cx dX4_schedule_64 rfl hl (by decide) rfl (fun ls hl => ?_)
      exact wX4_schedule_65 hj Cx hret hk47 fu hW (lv_sub hl [1, 2, 3, 0] rfl) hF
def FX4_schedule_47 : Nat → Int32 → Int32 → Blk → Option (Int32 × Blk)
  | 0 => fun _ _ _ => none
  | n + 1 => FX4_schedule_47s (FX4_schedule_47 n)
set_option maxRecDepth 100000 in
theorem wX4_schedule_47 {E : WE} {V : VT} {A : Nat → Prop} {H0 : Heap} {M : Mem} {j : Nat} (hj : j < 11) (Cx : CX E RX4 cX4_schedule 4 2 65) {r : Int32} {B' : Blk} (hret : RetI E V A H0 cX4_schedule .boolean r (jb M j B')) : ∀ (n : Nat) {H : Heap} {locs : List Loc} {ls : Array Slot} {l1 : Int32} {l2 : Int32} {B : Blk}, Wd V A H0 (jb M j B) (eS E) H locs → lv_has ls 4 [(0, .ref (vA V j 1)), (1, .int l1), (2, .int l2)] → FX4_schedule_47 n l1 l2 B = some (r, B') → Wq E H locs 47 ls [] := by
  intro n
  induction n with
  | zero => intro _ _ _ _ _ _ hW hl hF; cases hF
  | succ n ih => intro _ _ _ _ _ _ hW hl hF; exact wX4_schedule_47s hj Cx hret ih hW hl hF
def FX4_schedule_22s (k22 : Int32 → Blk → Option (Int32 × Blk)) (l1 : Int32) (B : Blk) : Option (Int32 × Blk) :=
  if ((B 1) 0) ≤ l1 then
    FX4_schedule_47 fu (0 : Int32) (0 : Int32) B
  else
    stb B 6 24 l1 (0 : Int32) fun B14 =>
    lt1 (l1 + (1 : Int32)) fun x17 =>
    k22 x17 B14
set_option maxRecDepth 100000 in
set_option maxHeartbeats 4000000 in
theorem wX4_schedule_22s {E : WE} {V : VT} {A : Nat → Prop} {H0 : Heap} {M : Mem} {j : Nat} (hj : j < 11) (Cx : CX E RX4 cX4_schedule 4 2 65) {r : Int32} {B' : Blk} (hret : RetI E V A H0 cX4_schedule .boolean r (jb M j B')) {k22 : Int32 → Blk → Option (Int32 × Blk)} (hk22 : ∀ {H : Heap} {locs : List Loc} {ls : Array Slot} {B : Blk} {l1 : Int32}, Wd V A H0 (jb M j B) (eS E) H locs → lv_has ls 4 [(0, .ref (vA V j 1)), (1, .int l1)] → k22 l1 B = some (r, B') → Wq E H locs 22 ls []) {H : Heap} {locs : List Loc} {ls : Array Slot} {l1 : Int32} {B : Blk} (hW : Wd V A H0 (jb M j B) (eS E) H locs) (hl : lv_has ls 4 [(0, .ref (vA V j 1)), (1, .int l1)]) (hF : FX4_schedule_22s k22 l1 B = some (r, B')) : Wq E H locs 22 ls [] := by
  unfold FX4_schedule_22s at hF
  refine q_iload_n Cx dX4_schedule_22 rfl (lv_at hl 1 rfl) ?_
  refine q_aload_n Cx dX4_schedule_23 rfl (lv_at hl 0 rfl) ?_
  refine qb_get (v := .int ((B 1) 0)) Cx hW (oP hj) ic4 0 (by decide) rfl wd_44 dX4_schedule_24 ?_
  refine q_icmp_ge (tgt := 43) Cx dX4_schedule_27 (by decide) (fun c2 => ?_) (fun c2 => ?_)
  · have hF := (if_pos c2).symm.trans hF
    refine q_iconst (v := (0 : Int32)) Cx dX4_schedule_43 (by decide) ?_
    refine q_istore_n (lv' := [(1, .int (0 : Int32)), (0, .ref (vA V j 1))]) Cx dX4_schedule_44 rfl hl (by decide) rfl (fun ls hl => ?_)
    refine q_iconst (v := (0 : Int32)) Cx dX4_schedule_45 (by decide) ?_
    refine q_istore_n (lv' := [(2, .int (0 : Int32)), (1, .int (0 : Int32)), (0, .ref (vA V j 1))]) Cx dX4_schedule_46 rfl hl (by decide) rfl (fun ls hl => ?_)
    exact wX4_schedule_47 hj Cx hret fu hW (lv_sub hl [2, 1, 0] rfl) hF
  · have hF := (if_neg c2).symm.trans hF
    refine q_aload_n Cx dX4_schedule_30 rfl (lv_at hl 0 rfl) ?_
    refine q_get (v := .ref (vA V j 6)) Cx hW (oP hj) ic4 4 (by decide) rfl wd_52 dX4_schedule_31 ?_
    refine q_iload_n Cx dX4_schedule_34 rfl (lv_at hl 1 rfl) ?_
    refine q_iconst (v := (0 : Int32)) Cx dX4_schedule_35 (by decide) ?_
    obtain ⟨h15, B14, e16, hF⟩ := stb_some hF
    refine qb_iast Cx hW (ai_6 hj) h15 e16 dX4_schedule_36 (fun H locs hW => ?_)
    obtain ⟨x17, e18, hF⟩ := lt1_some hF
    refine q_iinc (k := 1) (v := x17) (lv' := [(1, .int x17), (0, .ref (vA V j 1))]) Cx dX4_schedule_37 hl rfl e18.symm (by decide) rfl (fun ls hl => ?_)
    refine q_goto (tgt := 22) Cx dX4_schedule_40 (by decide) ?_
    exact hk22 hW (lv_sub hl [1, 0] rfl) hF
def FX4_schedule_22 : Nat → Int32 → Blk → Option (Int32 × Blk)
  | 0 => fun _ _ => none
  | n + 1 => FX4_schedule_22s (FX4_schedule_22 n)
set_option maxRecDepth 100000 in
theorem wX4_schedule_22 {E : WE} {V : VT} {A : Nat → Prop} {H0 : Heap} {M : Mem} {j : Nat} (hj : j < 11) (Cx : CX E RX4 cX4_schedule 4 2 65) {r : Int32} {B' : Blk} (hret : RetI E V A H0 cX4_schedule .boolean r (jb M j B')) : ∀ (n : Nat) {H : Heap} {locs : List Loc} {ls : Array Slot} {l1 : Int32} {B : Blk}, Wd V A H0 (jb M j B) (eS E) H locs → lv_has ls 4 [(0, .ref (vA V j 1)), (1, .int l1)] → FX4_schedule_22 n l1 B = some (r, B') → Wq E H locs 22 ls [] := by
  intro n
  induction n with
  | zero => intro _ _ _ _ _ hW hl hF; cases hF
  | succ n ih => intro _ _ _ _ _ hW hl hF; exact wX4_schedule_22s hj Cx hret ih hW hl hF
def FX4_schedule_2s (k2 : Int32 → Blk → Option (Int32 × Blk)) (l1 : Int32) (B : Blk) : Option (Int32 × Blk) :=
  if (4 : Int32) ≤ l1 then
    FX4_schedule_22 fu (0 : Int32) B
  else
    stb B 10 4 l1 (0 : Int32) fun B19 =>
    lt1 (l1 + (1 : Int32)) fun x22 =>
    k2 x22 B19
set_option maxRecDepth 100000 in
set_option maxHeartbeats 4000000 in
theorem wX4_schedule_2s {E : WE} {V : VT} {A : Nat → Prop} {H0 : Heap} {M : Mem} {j : Nat} (hj : j < 11) (Cx : CX E RX4 cX4_schedule 4 2 65) {r : Int32} {B' : Blk} (hret : RetI E V A H0 cX4_schedule .boolean r (jb M j B')) {k2 : Int32 → Blk → Option (Int32 × Blk)} (hk2 : ∀ {H : Heap} {locs : List Loc} {ls : Array Slot} {B : Blk} {l1 : Int32}, Wd V A H0 (jb M j B) (eS E) H locs → lv_has ls 4 [(0, .ref (vA V j 1)), (1, .int l1)] → k2 l1 B = some (r, B') → Wq E H locs 2 ls []) {H : Heap} {locs : List Loc} {ls : Array Slot} {l1 : Int32} {B : Blk} (hW : Wd V A H0 (jb M j B) (eS E) H locs) (hl : lv_has ls 4 [(0, .ref (vA V j 1)), (1, .int l1)]) (hF : FX4_schedule_2s k2 l1 B = some (r, B')) : Wq E H locs 2 ls [] := by
  unfold FX4_schedule_2s at hF
  refine q_iload_n Cx dX4_schedule_2 rfl (lv_at hl 1 rfl) ?_
  refine q_iconst (v := (4 : Int32)) Cx dX4_schedule_3 (by decide) ?_
  refine q_icmp_ge (tgt := 20) Cx dX4_schedule_4 (by decide) (fun c1 => ?_) (fun c1 => ?_)
  · have hF := (if_pos c1).symm.trans hF
    refine q_iconst (v := (0 : Int32)) Cx dX4_schedule_20 (by decide) ?_
    refine q_istore_n (lv' := [(1, .int (0 : Int32)), (0, .ref (vA V j 1))]) Cx dX4_schedule_21 rfl hl (by decide) rfl (fun ls hl => ?_)
    exact wX4_schedule_22 hj Cx hret fu hW (lv_sub hl [1, 0] rfl) hF
  · have hF := (if_neg c1).symm.trans hF
    refine q_aload_n Cx dX4_schedule_7 rfl (lv_at hl 0 rfl) ?_
    refine q_get (v := .ref (vA V j 10)) Cx hW (oP hj) ic4 8 (by decide) rfl wd_59 dX4_schedule_8 ?_
    refine q_iload_n Cx dX4_schedule_11 rfl (lv_at hl 1 rfl) ?_
    refine q_iconst (v := (0 : Int32)) Cx dX4_schedule_12 (by decide) ?_
    obtain ⟨h20, B19, e21, hF⟩ := stb_some hF
    refine qb_iast Cx hW (ai_10 hj) h20 e21 dX4_schedule_13 (fun H locs hW => ?_)
    obtain ⟨x22, e23, hF⟩ := lt1_some hF
    refine q_iinc (k := 1) (v := x22) (lv' := [(1, .int x22), (0, .ref (vA V j 1))]) Cx dX4_schedule_14 hl rfl e23.symm (by decide) rfl (fun ls hl => ?_)
    refine q_goto (tgt := 2) Cx dX4_schedule_17 (by decide) ?_
    exact hk2 hW (lv_sub hl [1, 0] rfl) hF
def FX4_schedule_2 : Nat → Int32 → Blk → Option (Int32 × Blk)
  | 0 => fun _ _ => none
  | n + 1 => FX4_schedule_2s (FX4_schedule_2 n)
set_option maxRecDepth 100000 in
theorem wX4_schedule_2 {E : WE} {V : VT} {A : Nat → Prop} {H0 : Heap} {M : Mem} {j : Nat} (hj : j < 11) (Cx : CX E RX4 cX4_schedule 4 2 65) {r : Int32} {B' : Blk} (hret : RetI E V A H0 cX4_schedule .boolean r (jb M j B')) : ∀ (n : Nat) {H : Heap} {locs : List Loc} {ls : Array Slot} {l1 : Int32} {B : Blk}, Wd V A H0 (jb M j B) (eS E) H locs → lv_has ls 4 [(0, .ref (vA V j 1)), (1, .int l1)] → FX4_schedule_2 n l1 B = some (r, B') → Wq E H locs 2 ls [] := by
  intro n
  induction n with
  | zero => intro _ _ _ _ _ hW hl hF; cases hF
  | succ n ih => intro _ _ _ _ _ hW hl hF; exact wX4_schedule_2s hj Cx hret ih hW hl hF
def FX4_schedule (B : Blk) : Option (Int32 × Blk) :=
  FX4_schedule_2 fu (0 : Int32) B
set_option maxRecDepth 100000 in
set_option maxHeartbeats 4000000 in
theorem wX4_schedule {E : WE} {V : VT} {A : Nat → Prop} {H0 : Heap} {M : Mem} {j : Nat} (hj : j < 11) (Cx : CX E RX4 cX4_schedule 4 2 65) {r : Int32} {B' : Blk} (hret : RetI E V A H0 cX4_schedule .boolean r (jb M j B')) {H : Heap} {locs : List Loc} {ls : Array Slot} {B : Blk} (hW : Wd V A H0 (jb M j B) (eS E) H locs) (hl : lv_has ls 4 [(0, .ref (vA V j 1))]) (hF : FX4_schedule B = some (r, B')) : Wq E H locs 0 ls [] := by
  unfold FX4_schedule at hF
  refine q_iconst (v := (0 : Int32)) Cx dX4_schedule_0 (by decide) ?_
  refine q_istore_n (lv' := [(1, .int (0 : Int32)), (0, .ref (vA V j 1))]) Cx dX4_schedule_1 rfl hl (by decide) rfl (fun ls hl => ?_)
  exact wX4_schedule_2 hj Cx hret fu hW (lv_sub hl [1, 0] rfl) hF
set_option maxRecDepth 100000 in
theorem kX4_schedule {l : Launch} {V : VT} {M : Mem} {j : Nat} (hj : j < 11) {B : Blk} {r : Int32} {B' : Blk} (hF : FX4_schedule B = some (r, B')) : MetI l V yX4_schedule cX4_schedule 4 .boolean ({ frames := 2, cells := 0, slots := 0, locals := 65 } : Room) [.ref (vA V j 1)] r (jb M j B) (jb M j B') := metI_of (by decide) (Nat.le_of_ble_eq_true rfl) (fun E H0 _ Cx hret H locs ls hW hl => wX4_schedule hj Cx hret hW hl hF)
theorem dX4_placeOf_0 : decode cX4_placeOf 0 = .ok (.aload_n 0, 1) := by decide +kernel
theorem dX4_placeOf_1 : decode cX4_placeOf 1 = .ok (.getfield 9, 3) := by decide +kernel
theorem dX4_placeOf_4 : decode cX4_placeOf 4 = .ok (.iload_n 1, 1) := by decide +kernel
theorem dX4_placeOf_5 : decode cX4_placeOf 5 = .ok (.iaload, 1) := by decide +kernel
theorem dX4_placeOf_6 : decode cX4_placeOf 6 = .ok (.istore_n 2, 1) := by decide +kernel
theorem dX4_placeOf_7 : decode cX4_placeOf 7 = .ok (.iconst 0, 1) := by decide +kernel
theorem dX4_placeOf_8 : decode cX4_placeOf 8 = .ok (.istore_n 3, 1) := by decide +kernel
theorem dX4_placeOf_9 : decode cX4_placeOf 9 = .ok (.iload_n 3, 1) := by decide +kernel
theorem dX4_placeOf_10 : decode cX4_placeOf 10 = .ok (.aload_n 0, 1) := by decide +kernel
theorem dX4_placeOf_11 : decode cX4_placeOf 11 = .ok (.getfield 30, 3) := by decide +kernel
theorem dX4_placeOf_14 : decode cX4_placeOf 14 = .ok (.iload_n 2, 1) := by decide +kernel
theorem dX4_placeOf_15 : decode cX4_placeOf 15 = .ok (.iaload, 1) := by decide +kernel
theorem dX4_placeOf_16 : decode cX4_placeOf 16 = .ok (.if_icmp .ge 21, 3) := by decide +kernel
theorem dX4_placeOf_19 : decode cX4_placeOf 19 = .ok (.aload_n 0, 1) := by decide +kernel
theorem dX4_placeOf_20 : decode cX4_placeOf 20 = .ok (.iload_n 2, 1) := by decide +kernel
theorem dX4_placeOf_21 : decode cX4_placeOf 21 = .ok (.iload_n 3, 1) := by decide +kernel
theorem dX4_placeOf_22 : decode cX4_placeOf 22 = .ok (.invokevirtual 49, 3) := by decide +kernel
theorem dX4_placeOf_25 : decode cX4_placeOf 25 = .ok (.iload_n 1, 1) := by decide +kernel
theorem dX4_placeOf_26 : decode cX4_placeOf 26 = .ok (.if_icmp .ne 5, 3) := by decide +kernel
theorem dX4_placeOf_29 : decode cX4_placeOf 29 = .ok (.iload_n 3, 1) := by decide +kernel
theorem dX4_placeOf_30 : decode cX4_placeOf 30 = .ok (.ireturn, 1) := by decide +kernel
theorem dX4_placeOf_31 : decode cX4_placeOf 31 = .ok (.iinc 3 1, 3) := by decide +kernel
theorem dX4_placeOf_34 : decode cX4_placeOf 34 = .ok (.goto (-25), 3) := by decide +kernel
theorem dX4_placeOf_37 : decode cX4_placeOf 37 = .ok (.bipush (-6), 2) := by decide +kernel
theorem dX4_placeOf_39 : decode cX4_placeOf 39 = .ok (.ireturn, 1) := by decide +kernel
theorem okX4_placeOf : CalOK yX4_placeOf cX4_placeOf 4 (some .int) 1 := ⟨wd_18, wd_284, by decide +kernel⟩
theorem ovX4_placeOf : VirOK yX4_placeOf := ⟨wd_282, wd_283⟩
def FX4_placeOf_9s (B : Blk) (k9 : Int32 → Int32 → Int32 → Option Int32) (l1 : Int32) (l2 : Int32) (l3 : Int32) : Option Int32 :=
  ld (B 9) 4 l2 fun v4 =>
  if v4 ≤ l3 then
    some (-6 : Int32)
  else
    c1 (FX4_inRow B l2 l3) fun r8 =>
    if r8 = l1 then
      some l3
    else
      lt1 (l3 + (1 : Int32)) fun x11 =>
      k9 l1 l2 x11
set_option maxRecDepth 100000 in
set_option maxHeartbeats 4000000 in
theorem wX4_placeOf_9s {E : WE} {V : VT} {A : Nat → Prop} {H0 : Heap} {M : Mem} {j : Nat} (hj : j < 11) (Cx : CX E RX4 cX4_placeOf 4 1 22) {r : Int32} {B : Blk} (hret : RetI E V A H0 cX4_placeOf .int r (jb M j B)) {k9 : Int32 → Int32 → Int32 → Option Int32} (hk9 : ∀ {H : Heap} {locs : List Loc} {ls : Array Slot} {l1 : Int32} {l2 : Int32} {l3 : Int32}, Wd V A H0 (jb M j B) (eS E) H locs → lv_has ls 4 [(0, .ref (vA V j 1)), (1, .int l1), (2, .int l2), (3, .int l3)] → k9 l1 l2 l3 = some r → Wq E H locs 9 ls []) {H : Heap} {locs : List Loc} {ls : Array Slot} {l1 : Int32} {l2 : Int32} {l3 : Int32} (hW : Wd V A H0 (jb M j B) (eS E) H locs) (hl : lv_has ls 4 [(0, .ref (vA V j 1)), (1, .int l1), (2, .int l2), (3, .int l3)]) (hF : FX4_placeOf_9s B k9 l1 l2 l3 = some r) : Wq E H locs 9 ls [] := by
  unfold FX4_placeOf_9s at hF
  refine q_iload_n Cx dX4_placeOf_9 rfl (lv_at hl 3 rfl) ?_
  refine q_aload_n Cx dX4_placeOf_10 rfl (lv_at hl 0 rfl) ?_
  refine q_get (v := .ref (vA V j 9)) Cx hW (oP hj) ic4 7 (by decide) rfl wd_57 dX4_placeOf_11 ?_
  refine q_iload_n Cx dX4_placeOf_14 rfl (lv_at hl 2 rfl) ?_
  obtain ⟨h5, v4, e6, hF⟩ := ld_some hF
  refine qb_iald Cx hW (ai_9 hj) h5 e6 dX4_placeOf_15 ?_
  refine q_icmp_ge (tgt := 37) Cx dX4_placeOf_16 (by decide) (fun c7 => ?_) (fun c7 => ?_)
  · have hF := (if_pos c7).symm.trans hF
    refine q_bipush (v := (-6 : Int32)) Cx dX4_placeOf_37 (by decide) ?_
    obtain rfl := Option.some.inj hF
    exact hret _ _ _ _ dX4_placeOf_39 (nI32 _) hW
  · have hF := (if_neg c7).symm.trans hF
    refine q_aload_n Cx dX4_placeOf_19 rfl (lv_at hl 0 rfl) ?_
    refine q_iload_n Cx dX4_placeOf_20 rfl (lv_at hl 2 rfl) ?_
    refine q_iload_n Cx dX4_placeOf_21 rfl (lv_at hl 3 rfl) ?_
    obtain ⟨r8, e9, hF⟩ := c1_some hF
    refine q_callI (as := [.int l2, .int l3]) (rest := []) Cx (kX4_inRow hj e9) okX4_inRow ovX4_inRow wd_261 ⟨rfl, rfl, by decide, by decide⟩ hW (oP hj) ic4 rfl hl.1 (Nat.le_of_ble_eq_true rfl) rfl dX4_placeOf_22 (fun H locs hW => ?_)
    refine q_iload_n Cx dX4_placeOf_25 rfl (lv_at hl 1 rfl) ?_
    refine q_icmp_ne (tgt := 31) Cx dX4_placeOf_26 (by decide) (fun c10 => ?_) (fun c10 => ?_)
    · have hF := (if_neg c10).symm.trans hF
      obtain ⟨x11, e12, hF⟩ := lt1_some hF
      refine q_iinc (k := 3) (v := x11) (lv' := [(3, .int x11), (0, .ref (vA V j 1)), (1, .int l1), (2, .int l2)]) Cx dX4_placeOf_31 hl rfl e12.symm (by decide) rfl (fun ls hl => ?_)
      refine q_goto (tgt := 9) Cx dX4_placeOf_34 (by decide) ?_
      exact hk9 hW (lv_sub hl [1, 2, 3, 0] rfl) hF
    · have hF := (if_pos c10).symm.trans hF
      refine q_iload_n Cx dX4_placeOf_29 rfl (lv_at hl 3 rfl) ?_
      obtain rfl := Option.some.inj hF
      exact hret _ _ _ _ dX4_placeOf_30 (nI32 _) hW
def FX4_placeOf_9 (B : Blk) : Nat → Int32 → Int32 → Int32 → Option Int32
  | 0 => fun _ _ _ => none
  | n + 1 => FX4_placeOf_9s B (FX4_placeOf_9 B n)
set_option maxRecDepth 100000 in
theorem wX4_placeOf_9 {E : WE} {V : VT} {A : Nat → Prop} {H0 : Heap} {M : Mem} {j : Nat} (hj : j < 11) (Cx : CX E RX4 cX4_placeOf 4 1 22) {r : Int32} {B : Blk} (hret : RetI E V A H0 cX4_placeOf .int r (jb M j B)) : ∀ (n : Nat) {H : Heap} {locs : List Loc} {ls : Array Slot} {l1 : Int32} {l2 : Int32} {l3 : Int32}, Wd V A H0 (jb M j B) (eS E) H locs → lv_has ls 4 [(0, .ref (vA V j 1)), (1, .int l1), (2, .int l2), (3, .int l3)] → FX4_placeOf_9 B n l1 l2 l3 = some r → Wq E H locs 9 ls [] := by
  intro n
  induction n with
  | zero => intro _ _ _ _ _ _ hW hl hF; cases hF
  | succ n ih => intro _ _ _ _ _ _ hW hl hF; exact wX4_placeOf_9s hj Cx hret ih hW hl hF
def FX4_placeOf (B : Blk) (l1 : Int32) : Option Int32 :=
  ld (B 3) 24 l1 fun v1 =>
  FX4_placeOf_9 B fu l1 v1 (0 : Int32)
set_option maxRecDepth 100000 in
set_option maxHeartbeats 4000000 in
theorem wX4_placeOf {E : WE} {V : VT} {A : Nat → Prop} {H0 : Heap} {M : Mem} {j : Nat} (hj : j < 11) (Cx : CX E RX4 cX4_placeOf 4 1 22) {r : Int32} {B : Blk} (hret : RetI E V A H0 cX4_placeOf .int r (jb M j B)) {H : Heap} {locs : List Loc} {ls : Array Slot} {l1 : Int32} (hW : Wd V A H0 (jb M j B) (eS E) H locs) (hl : lv_has ls 4 [(0, .ref (vA V j 1)), (1, .int l1)]) (hF : FX4_placeOf B l1 = some r) : Wq E H locs 0 ls [] := by
  unfold FX4_placeOf at hF
  refine q_aload_n Cx dX4_placeOf_0 rfl (lv_at hl 0 rfl) ?_
  refine q_get (v := .ref (vA V j 3)) Cx hW (oP hj) ic4 1 (by decide) rfl wd_46 dX4_placeOf_1 ?_
  refine q_iload_n Cx dX4_placeOf_4 rfl (lv_at hl 1 rfl) ?_
  obtain ⟨h2, v1, e3, hF⟩ := ld_some hF
  refine qb_iald Cx hW (ai_3 hj) h2 e3 dX4_placeOf_5 ?_
  refine q_istore_n (lv' := [(2, .int v1), (0, .ref (vA V j 1)), (1, .int l1)]) Cx dX4_placeOf_6 rfl hl (by decide) rfl (fun ls hl => ?_)
  refine q_iconst (v := (0 : Int32)) Cx dX4_placeOf_7 (by decide) ?_
  refine q_istore_n (lv' := [(3, .int (0 : Int32)), (2, .int v1), (0, .ref (vA V j 1)), (1, .int l1)]) Cx dX4_placeOf_8 rfl hl (by decide) rfl (fun ls hl => ?_)
  exact wX4_placeOf_9 hj Cx hret fu hW (lv_sub hl [2, 3, 1, 0] rfl) hF
set_option maxRecDepth 100000 in
theorem kX4_placeOf {l : Launch} {V : VT} {M : Mem} {j : Nat} (hj : j < 11) {B : Blk} {l1 : Int32} {r : Int32} (hF : FX4_placeOf B l1 = some r) : MetI l V yX4_placeOf cX4_placeOf 4 .int ({ frames := 1, cells := 0, slots := 0, locals := 22 } : Room) [.ref (vA V j 1), .int l1] r (jb M j B) (jb M j B) := metI_of (by decide) (Nat.le_of_ble_eq_true rfl) (fun E H0 _ Cx hret H locs ls hW hl => wX4_placeOf hj Cx hret hW hl hF)
theorem dX4_shift_0 : decode cX4_shift 0 = .ok (.aload_n 0, 1) := by decide +kernel
theorem dX4_shift_1 : decode cX4_shift 1 = .ok (.getfield 9, 3) := by decide +kernel
theorem dX4_shift_4 : decode cX4_shift 4 = .ok (.iload_n 1, 1) := by decide +kernel
theorem dX4_shift_5 : decode cX4_shift 5 = .ok (.iaload, 1) := by decide +kernel
theorem dX4_shift_6 : decode cX4_shift 6 = .ok (.bipush 24, 2) := by decide +kernel
theorem dX4_shift_8 : decode cX4_shift 8 = .ok (.imul, 1) := by decide +kernel
theorem dX4_shift_9 : decode cX4_shift 9 = .ok (.istore_n 3, 1) := by decide +kernel
theorem dX4_shift_10 : decode cX4_shift 10 = .ok (.aload_n 0, 1) := by decide +kernel
theorem dX4_shift_11 : decode cX4_shift 11 = .ok (.iload_n 1, 1) := by decide +kernel
theorem dX4_shift_12 : decode cX4_shift 12 = .ok (.invokevirtual 53, 3) := by decide +kernel
theorem dX4_shift_15 : decode cX4_shift 15 = .ok (.istore 4, 2) := by decide +kernel
theorem dX4_shift_17 : decode cX4_shift 17 = .ok (.iload 4, 2) := by decide +kernel
theorem dX4_shift_19 : decode cX4_shift 19 = .ok (.ifCond .lt 22, 3) := by decide +kernel
theorem dX4_shift_22 : decode cX4_shift 22 = .ok (.iload_n 2, 1) := by decide +kernel
theorem dX4_shift_23 : decode cX4_shift 23 = .ok (.ifCond .lt 18, 3) := by decide +kernel
theorem dX4_shift_26 : decode cX4_shift 26 = .ok (.iload_n 2, 1) := by decide +kernel
theorem dX4_shift_27 : decode cX4_shift 27 = .ok (.aload_n 0, 1) := by decide +kernel
theorem dX4_shift_28 : decode cX4_shift 28 = .ok (.getfield 30, 3) := by decide +kernel
theorem dX4_shift_31 : decode cX4_shift 31 = .ok (.aload_n 0, 1) := by decide +kernel
theorem dX4_shift_32 : decode cX4_shift 32 = .ok (.getfield 9, 3) := by decide +kernel
theorem dX4_shift_35 : decode cX4_shift 35 = .ok (.iload_n 1, 1) := by decide +kernel
theorem dX4_shift_36 : decode cX4_shift 36 = .ok (.iaload, 1) := by decide +kernel
theorem dX4_shift_37 : decode cX4_shift 37 = .ok (.iaload, 1) := by decide +kernel
theorem dX4_shift_38 : decode cX4_shift 38 = .ok (.if_icmp .lt 4, 3) := by decide +kernel
theorem dX4_shift_41 : decode cX4_shift 41 = .ok (.return_, 1) := by decide +kernel
theorem dX4_shift_42 : decode cX4_shift 42 = .ok (.iload 4, 2) := by decide +kernel
theorem dX4_shift_44 : decode cX4_shift 44 = .ok (.istore 5, 2) := by decide +kernel
theorem dX4_shift_46 : decode cX4_shift 46 = .ok (.iload 5, 2) := by decide +kernel
theorem dX4_shift_48 : decode cX4_shift 48 = .ok (.iload_n 2, 1) := by decide +kernel
theorem dX4_shift_49 : decode cX4_shift 49 = .ok (.if_icmp .ge 29, 3) := by decide +kernel
theorem dX4_shift_52 : decode cX4_shift 52 = .ok (.aload_n 0, 1) := by decide +kernel
theorem dX4_shift_53 : decode cX4_shift 53 = .ok (.getfield 27, 3) := by decide +kernel
theorem dX4_shift_56 : decode cX4_shift 56 = .ok (.iload_n 3, 1) := by decide +kernel
theorem dX4_shift_57 : decode cX4_shift 57 = .ok (.iload 5, 2) := by decide +kernel
theorem dX4_shift_59 : decode cX4_shift 59 = .ok (.iadd, 1) := by decide +kernel
theorem dX4_shift_60 : decode cX4_shift 60 = .ok (.aload_n 0, 1) := by decide +kernel
theorem dX4_shift_61 : decode cX4_shift 61 = .ok (.getfield 27, 3) := by decide +kernel
theorem dX4_shift_64 : decode cX4_shift 64 = .ok (.iload_n 3, 1) := by decide +kernel
theorem dX4_shift_65 : decode cX4_shift 65 = .ok (.iload 5, 2) := by decide +kernel
theorem dX4_shift_67 : decode cX4_shift 67 = .ok (.iadd, 1) := by decide +kernel
theorem dX4_shift_68 : decode cX4_shift 68 = .ok (.iconst 1, 1) := by decide +kernel
theorem dX4_shift_69 : decode cX4_shift 69 = .ok (.iadd, 1) := by decide +kernel
theorem dX4_shift_70 : decode cX4_shift 70 = .ok (.iaload, 1) := by decide +kernel
theorem dX4_shift_71 : decode cX4_shift 71 = .ok (.iastore, 1) := by decide +kernel
theorem dX4_shift_72 : decode cX4_shift 72 = .ok (.iinc 5 1, 3) := by decide +kernel
theorem dX4_shift_75 : decode cX4_shift 75 = .ok (.goto (-29), 3) := by decide +kernel
theorem dX4_shift_78 : decode cX4_shift 78 = .ok (.iload 4, 2) := by decide +kernel
theorem dX4_shift_80 : decode cX4_shift 80 = .ok (.istore 5, 2) := by decide +kernel
theorem dX4_shift_82 : decode cX4_shift 82 = .ok (.iload 5, 2) := by decide +kernel
theorem dX4_shift_84 : decode cX4_shift 84 = .ok (.iload_n 2, 1) := by decide +kernel
theorem dX4_shift_85 : decode cX4_shift 85 = .ok (.if_icmp .le 29, 3) := by decide +kernel
theorem dX4_shift_88 : decode cX4_shift 88 = .ok (.aload_n 0, 1) := by decide +kernel
theorem dX4_shift_89 : decode cX4_shift 89 = .ok (.getfield 27, 3) := by decide +kernel
theorem dX4_shift_92 : decode cX4_shift 92 = .ok (.iload_n 3, 1) := by decide +kernel
theorem dX4_shift_93 : decode cX4_shift 93 = .ok (.iload 5, 2) := by decide +kernel
theorem dX4_shift_95 : decode cX4_shift 95 = .ok (.iadd, 1) := by decide +kernel
theorem dX4_shift_96 : decode cX4_shift 96 = .ok (.aload_n 0, 1) := by decide +kernel
theorem dX4_shift_97 : decode cX4_shift 97 = .ok (.getfield 27, 3) := by decide +kernel
theorem dX4_shift_100 : decode cX4_shift 100 = .ok (.iload_n 3, 1) := by decide +kernel
theorem dX4_shift_101 : decode cX4_shift 101 = .ok (.iload 5, 2) := by decide +kernel
theorem dX4_shift_103 : decode cX4_shift 103 = .ok (.iadd, 1) := by decide +kernel
theorem dX4_shift_104 : decode cX4_shift 104 = .ok (.iconst 1, 1) := by decide +kernel
theorem dX4_shift_105 : decode cX4_shift 105 = .ok (.isub, 1) := by decide +kernel
theorem dX4_shift_106 : decode cX4_shift 106 = .ok (.iaload, 1) := by decide +kernel
theorem dX4_shift_107 : decode cX4_shift 107 = .ok (.iastore, 1) := by decide +kernel
theorem dX4_shift_108 : decode cX4_shift 108 = .ok (.iinc 5 (-1), 3) := by decide +kernel
theorem dX4_shift_111 : decode cX4_shift 111 = .ok (.goto (-29), 3) := by decide +kernel
theorem dX4_shift_114 : decode cX4_shift 114 = .ok (.aload_n 0, 1) := by decide +kernel
theorem dX4_shift_115 : decode cX4_shift 115 = .ok (.getfield 27, 3) := by decide +kernel
theorem dX4_shift_118 : decode cX4_shift 118 = .ok (.iload_n 3, 1) := by decide +kernel
theorem dX4_shift_119 : decode cX4_shift 119 = .ok (.iload_n 2, 1) := by decide +kernel
theorem dX4_shift_120 : decode cX4_shift 120 = .ok (.iadd, 1) := by decide +kernel
theorem dX4_shift_121 : decode cX4_shift 121 = .ok (.iload_n 1, 1) := by decide +kernel
theorem dX4_shift_122 : decode cX4_shift 122 = .ok (.iastore, 1) := by decide +kernel
theorem dX4_shift_123 : decode cX4_shift 123 = .ok (.return_, 1) := by decide +kernel
theorem okX4_shift : CalOK yX4_shift cX4_shift 6 (none) 2 := ⟨wd_18, wd_465, by decide +kernel⟩
theorem ovX4_shift : VirOK yX4_shift := ⟨wd_463, wd_464⟩
def FX4_shift_82s (k82 : Int32 → Int32 → Int32 → Int32 → Blk → Option Blk) (l1 : Int32) (l2 : Int32) (l3 : Int32) (l5 : Int32) (B : Blk) : Option Blk :=
  if l5 ≤ l2 then
    stb B 8 96 (l3 + l2) l1 fun B19 =>
    some B19
  else
    ld (B 8) 96 ((l3 + l5) - (1 : Int32)) fun v22 =>
    stb B 8 96 (l3 + l5) v22 fun B25 =>
    lt1 (l5 + (-1 : Int32)) fun x28 =>
    k82 l1 l2 l3 x28 B25
set_option maxRecDepth 100000 in
set_option maxHeartbeats 4000000 in
theorem wX4_shift_82s {E : WE} {V : VT} {A : Nat → Prop} {H0 : Heap} {M : Mem} {j : Nat} (hj : j < 11) (Cx : CX E RX4 cX4_shift 6 2 45) {B' : Blk} (hret : RetV E V A H0 cX4_shift (jb M j B')) {k82 : Int32 → Int32 → Int32 → Int32 → Blk → Option Blk} (hk82 : ∀ {H : Heap} {locs : List Loc} {ls : Array Slot} {B : Blk} {l1 : Int32} {l2 : Int32} {l3 : Int32} {l5 : Int32}, Wd V A H0 (jb M j B) (eS E) H locs → lv_has ls 6 [(0, .ref (vA V j 1)), (1, .int l1), (2, .int l2), (3, .int l3), (5, .int l5)] → k82 l1 l2 l3 l5 B = some B' → Wq E H locs 82 ls []) {H : Heap} {locs : List Loc} {ls : Array Slot} {l1 : Int32} {l2 : Int32} {l3 : Int32} {l5 : Int32} {B : Blk} (hW : Wd V A H0 (jb M j B) (eS E) H locs) (hl : lv_has ls 6 [(0, .ref (vA V j 1)), (1, .int l1), (2, .int l2), (3, .int l3), (5, .int l5)]) (hF : FX4_shift_82s k82 l1 l2 l3 l5 B = some B') : Wq E H locs 82 ls [] := by
  unfold FX4_shift_82s at hF
  refine q_iload Cx dX4_shift_82 (lv_at hl 4 rfl) ?_
  refine q_iload_n Cx dX4_shift_84 rfl (lv_at hl 2 rfl) ?_
  refine q_icmp_le (tgt := 114) Cx dX4_shift_85 (by decide) (fun c18 => ?_) (fun c18 => ?_)
  · have hF := (if_pos c18).symm.trans hF
    refine q_aload_n Cx dX4_shift_114 rfl (lv_at hl 0 rfl) ?_
    refine q_get (v := .ref (vA V j 8)) Cx hW (oP hj) ic4 6 (by decide) rfl wd_56 dX4_shift_115 ?_
    refine q_iload_n Cx dX4_shift_118 rfl (lv_at hl 3 rfl) ?_
    refine q_iload_n Cx dX4_shift_119 rfl (lv_at hl 2 rfl) ?_
    refine q_iadd Cx dX4_shift_120 ?_
    refine q_iload_n Cx dX4_shift_121 rfl (lv_at hl 1 rfl) ?_
    obtain ⟨h20, B19, e21, hF⟩ := stb_some hF
    refine qb_iast Cx hW (ai_8 hj) h20 e21 dX4_shift_122 (fun H locs hW => ?_)
    obtain rfl := Option.some.inj hF
    exact hret _ _ _ _ dX4_shift_123 hW
  · have hF := (if_neg c18).symm.trans hF
    refine q_aload_n Cx dX4_shift_88 rfl (lv_at hl 0 rfl) ?_
    refine q_get (v := .ref (vA V j 8)) Cx hW (oP hj) ic4 6 (by decide) rfl wd_56 dX4_shift_89 ?_
    refine q_iload_n Cx dX4_shift_92 rfl (lv_at hl 3 rfl) ?_
    refine q_iload Cx dX4_shift_93 (lv_at hl 4 rfl) ?_
    refine q_iadd Cx dX4_shift_95 ?_
    refine q_aload_n Cx dX4_shift_96 rfl (lv_at hl 0 rfl) ?_
    refine q_get (v := .ref (vA V j 8)) Cx hW (oP hj) ic4 6 (by decide) rfl wd_56 dX4_shift_97 ?_
    refine q_iload_n Cx dX4_shift_100 rfl (lv_at hl 3 rfl) ?_
    refine q_iload Cx dX4_shift_101 (lv_at hl 4 rfl) ?_
    refine q_iadd Cx dX4_shift_103 ?_
    refine q_iconst (v := (1 : Int32)) Cx dX4_shift_104 (by decide) ?_
    refine q_isub Cx dX4_shift_105 ?_
    obtain ⟨h23, v22, e24, hF⟩ := ld_some hF
    refine qb_iald Cx hW (ai_8 hj) h23 e24 dX4_shift_106 ?_
    obtain ⟨h26, B25, e27, hF⟩ := stb_some hF
    refine qb_iast Cx hW (ai_8 hj) h26 e27 dX4_shift_107 (fun H locs hW => ?_)
    obtain ⟨x28, e29, hF⟩ := lt1_some hF
    refine q_iinc (k := 4) (v := x28) (lv' := [(5, .int x28), (0, .ref (vA V j 1)), (1, .int l1), (2, .int l2), (3, .int l3)]) Cx dX4_shift_108 hl rfl e29.symm (by decide) rfl (fun ls hl => ?_)
    refine q_goto (tgt := 82) Cx dX4_shift_111 (by decide) ?_
    exact hk82 hW (lv_sub hl [1, 2, 3, 4, 0] rfl) hF
def FX4_shift_82 : Nat → Int32 → Int32 → Int32 → Int32 → Blk → Option Blk
  | 0 => fun _ _ _ _ _ => none
  | n + 1 => FX4_shift_82s (FX4_shift_82 n)
set_option maxRecDepth 100000 in
theorem wX4_shift_82 {E : WE} {V : VT} {A : Nat → Prop} {H0 : Heap} {M : Mem} {j : Nat} (hj : j < 11) (Cx : CX E RX4 cX4_shift 6 2 45) {B' : Blk} (hret : RetV E V A H0 cX4_shift (jb M j B')) : ∀ (n : Nat) {H : Heap} {locs : List Loc} {ls : Array Slot} {l1 : Int32} {l2 : Int32} {l3 : Int32} {l5 : Int32} {B : Blk}, Wd V A H0 (jb M j B) (eS E) H locs → lv_has ls 6 [(0, .ref (vA V j 1)), (1, .int l1), (2, .int l2), (3, .int l3), (5, .int l5)] → FX4_shift_82 n l1 l2 l3 l5 B = some B' → Wq E H locs 82 ls [] := by
  intro n
  induction n with
  | zero => intro _ _ _ _ _ _ _ _ hW hl hF; cases hF
  | succ n ih => intro _ _ _ _ _ _ _ _ hW hl hF; exact wX4_shift_82s hj Cx hret ih hW hl hF
def FX4_shift_46s (k46 : Int32 → Int32 → Int32 → Int32 → Int32 → Blk → Option Blk) (l1 : Int32) (l2 : Int32) (l3 : Int32) (l4 : Int32) (l5 : Int32) (B : Blk) : Option Blk :=
  if l2 ≤ l5 then
    FX4_shift_82 fu l1 l2 l3 l4 B
  else
    ld (B 8) 96 ((l3 + l5) + (1 : Int32)) fun v30 =>
    stb B 8 96 (l3 + l5) v30 fun B33 =>
    lt1 (l5 + (1 : Int32)) fun x36 =>
    k46 l1 l2 l3 l4 x36 B33
set_option maxRecDepth 100000 in
set_option maxHeartbeats 4000000 in
theorem wX4_shift_46s {E : WE} {V : VT} {A : Nat → Prop} {H0 : Heap} {M : Mem} {j : Nat} (hj : j < 11) (Cx : CX E RX4 cX4_shift 6 2 45) {B' : Blk} (hret : RetV E V A H0 cX4_shift (jb M j B')) {k46 : Int32 → Int32 → Int32 → Int32 → Int32 → Blk → Option Blk} (hk46 : ∀ {H : Heap} {locs : List Loc} {ls : Array Slot} {B : Blk} {l1 : Int32} {l2 : Int32} {l3 : Int32} {l4 : Int32} {l5 : Int32}, Wd V A H0 (jb M j B) (eS E) H locs → lv_has ls 6 [(0, .ref (vA V j 1)), (1, .int l1), (2, .int l2), (3, .int l3), (4, .int l4), (5, .int l5)] → k46 l1 l2 l3 l4 l5 B = some B' → Wq E H locs 46 ls []) {H : Heap} {locs : List Loc} {ls : Array Slot} {l1 : Int32} {l2 : Int32} {l3 : Int32} {l4 : Int32} {l5 : Int32} {B : Blk} (hW : Wd V A H0 (jb M j B) (eS E) H locs) (hl : lv_has ls 6 [(0, .ref (vA V j 1)), (1, .int l1), (2, .int l2), (3, .int l3), (4, .int l4), (5, .int l5)]) (hF : FX4_shift_46s k46 l1 l2 l3 l4 l5 B = some B') : Wq E H locs 46 ls [] := by
  unfold FX4_shift_46s at hF
  refine q_iload Cx dX4_shift_46 (lv_at hl 5 rfl) ?_
  refine q_iload_n Cx dX4_shift_48 rfl (lv_at hl 2 rfl) ?_
  refine q_icmp_ge (tgt := 78) Cx dX4_shift_49 (by decide) (fun c17 => ?_) (fun c17 => ?_)
  · have hF := (if_pos c17).symm.trans hF
    refine q_iload Cx dX4_shift_78 (lv_at hl 4 rfl) ?_
    refine q_istore (lv' := [(5, .int l4), (0, .ref (vA V j 1)), (1, .int l1), (2, .int l2), (3, .int l3), (4, .int l4)]) Cx dX4_shift_80 hl (by decide) rfl (fun ls hl => ?_)
    exact wX4_shift_82 hj Cx hret fu hW (lv_sub hl [1, 2, 3, 4, 0] rfl) hF
  · have hF := (if_neg c17).symm.trans hF
    refine q_aload_n Cx dX4_shift_52 rfl (lv_at hl 0 rfl) ?_
    refine q_get (v := .ref (vA V j 8)) Cx hW (oP hj) ic4 6 (by decide) rfl wd_56 dX4_shift_53 ?_
    refine q_iload_n Cx dX4_shift_56 rfl (lv_at hl 3 rfl) ?_
    refine q_iload Cx dX4_shift_57 (lv_at hl 5 rfl) ?_
    refine q_iadd Cx dX4_shift_59 ?_
    refine q_aload_n Cx dX4_shift_60 rfl (lv_at hl 0 rfl) ?_
    refine q_get (v := .ref (vA V j 8)) Cx hW (oP hj) ic4 6 (by decide) rfl wd_56 dX4_shift_61 ?_
    refine q_iload_n Cx dX4_shift_64 rfl (lv_at hl 3 rfl) ?_
    refine q_iload Cx dX4_shift_65 (lv_at hl 5 rfl) ?_
    refine q_iadd Cx dX4_shift_67 ?_
    refine q_iconst (v := (1 : Int32)) Cx dX4_shift_68 (by decide) ?_
    refine q_iadd Cx dX4_shift_69 ?_
    obtain ⟨h31, v30, e32, hF⟩ := ld_some hF
    refine qb_iald Cx hW (ai_8 hj) h31 e32 dX4_shift_70 ?_
    obtain ⟨h34, B33, e35, hF⟩ := stb_some hF
    refine qb_iast Cx hW (ai_8 hj) h34 e35 dX4_shift_71 (fun H locs hW => ?_)
    obtain ⟨x36, e37, hF⟩ := lt1_some hF
    refine q_iinc (k := 5) (v := x36) (lv' := [(5, .int x36), (0, .ref (vA V j 1)), (1, .int l1), (2, .int l2), (3, .int l3), (4, .int l4)]) Cx dX4_shift_72 hl rfl e37.symm (by decide) rfl (fun ls hl => ?_)
    refine q_goto (tgt := 46) Cx dX4_shift_75 (by decide) ?_
    exact hk46 hW (lv_sub hl [1, 2, 3, 4, 5, 0] rfl) hF
def FX4_shift_46 : Nat → Int32 → Int32 → Int32 → Int32 → Int32 → Blk → Option Blk
  | 0 => fun _ _ _ _ _ _ => none
  | n + 1 => FX4_shift_46s (FX4_shift_46 n)
set_option maxRecDepth 100000 in
theorem wX4_shift_46 {E : WE} {V : VT} {A : Nat → Prop} {H0 : Heap} {M : Mem} {j : Nat} (hj : j < 11) (Cx : CX E RX4 cX4_shift 6 2 45) {B' : Blk} (hret : RetV E V A H0 cX4_shift (jb M j B')) : ∀ (n : Nat) {H : Heap} {locs : List Loc} {ls : Array Slot} {l1 : Int32} {l2 : Int32} {l3 : Int32} {l4 : Int32} {l5 : Int32} {B : Blk}, Wd V A H0 (jb M j B) (eS E) H locs → lv_has ls 6 [(0, .ref (vA V j 1)), (1, .int l1), (2, .int l2), (3, .int l3), (4, .int l4), (5, .int l5)] → FX4_shift_46 n l1 l2 l3 l4 l5 B = some B' → Wq E H locs 46 ls [] := by
  intro n
  induction n with
  | zero => intro _ _ _ _ _ _ _ _ _ hW hl hF; cases hF
  | succ n ih => intro _ _ _ _ _ _ _ _ _ hW hl hF; exact wX4_shift_46s hj Cx hret ih hW hl hF
def FX4_shift (B : Blk) (l1 : Int32) (l2 : Int32) : Option Blk :=
  ld (B 3) 24 l1 fun v1 =>
  lt1 (v1 * (24 : Int32)) fun x4 =>
  c1 (FX4_placeOf B l1) fun r6 =>
  if r6 < 0 then
    some B
  else
    if l2 < 0 then
      some B
    else
      ld (B 3) 24 l1 fun v10 =>
      ld (B 9) 4 v10 fun v13 =>
      if l2 < v13 then
        FX4_shift_46 fu l1 l2 x4 r6 r6 B
      else
        some B
set_option maxRecDepth 100000 in
set_option maxHeartbeats 4000000 in
theorem wX4_shift {E : WE} {V : VT} {A : Nat → Prop} {H0 : Heap} {M : Mem} {j : Nat} (hj : j < 11) (Cx : CX E RX4 cX4_shift 6 2 45) {B' : Blk} (hret : RetV E V A H0 cX4_shift (jb M j B')) {H : Heap} {locs : List Loc} {ls : Array Slot} {l1 : Int32} {l2 : Int32} {B : Blk} (hW : Wd V A H0 (jb M j B) (eS E) H locs) (hl : lv_has ls 6 [(0, .ref (vA V j 1)), (1, .int l1), (2, .int l2)]) (hF : FX4_shift B l1 l2 = some B') : Wq E H locs 0 ls [] := by
  unfold FX4_shift at hF
  refine q_aload_n Cx dX4_shift_0 rfl (lv_at hl 0 rfl) ?_
  refine q_get (v := .ref (vA V j 3)) Cx hW (oP hj) ic4 1 (by decide) rfl wd_46 dX4_shift_1 ?_
  refine q_iload_n Cx dX4_shift_4 rfl (lv_at hl 1 rfl) ?_
  obtain ⟨h2, v1, e3, hF⟩ := ld_some hF
  refine qb_iald Cx hW (ai_3 hj) h2 e3 dX4_shift_5 ?_
  refine q_bipush (v := (24 : Int32)) Cx dX4_shift_6 (by decide) ?_
  refine q_imul Cx dX4_shift_8 ?_
  obtain ⟨x4, e5, hF⟩ := lt1_some hF
  refine q_topi e5 ?_
  refine q_istore_n (lv' := [(3, .int x4), (0, .ref (vA V j 1)), (1, .int l1), (2, .int l2)]) Cx dX4_shift_9 rfl hl (by decide) rfl (fun ls hl => ?_)
  refine q_aload_n Cx dX4_shift_10 rfl (lv_at hl 1 rfl) ?_
  refine q_iload_n Cx dX4_shift_11 rfl (lv_at hl 2 rfl) ?_
  obtain ⟨r6, e7, hF⟩ := c1_some hF
  refine q_callI (as := [.int l1]) (rest := []) Cx (kX4_placeOf hj e7) okX4_placeOf ovX4_placeOf wd_311 ⟨rfl, rfl, by decide, by decide⟩ hW (oP hj) ic4 rfl hl.1 (Nat.le_of_ble_eq_true rfl) rfl dX4_shift_12 (fun H locs hW => ?_)
  refine q_istore (lv' := [(4, .int r6), (3, .int x4), (0, .ref (vA V j 1)), (1, .int l1), (2, .int l2)]) Cx dX4_shift_15 hl (by decide) rfl (fun ls hl => ?_)
  refine q_iload Cx dX4_shift_17 (lv_at hl 0 rfl) ?_
  refine q_if_lt (tgt := 41) Cx dX4_shift_19 (by decide) (fun c8 => ?_) (fun c8 => ?_)
  · have hF := (if_pos c8).symm.trans hF
    obtain rfl := Option.some.inj hF
    exact hret _ _ _ _ dX4_shift_41 hW
  · have hF := (if_neg c8).symm.trans hF
    refine q_iload_n Cx dX4_shift_22 rfl (lv_at hl 4 rfl) ?_
    refine q_if_lt (tgt := 41) Cx dX4_shift_23 (by decide) (fun c9 => ?_) (fun c9 => ?_)
    · have hF := (if_pos c9).symm.trans hF
      obtain rfl := Option.some.inj hF
      exact hret _ _ _ _ dX4_shift_41 hW
    · have hF := (if_neg c9).symm.trans hF
      refine q_iload_n Cx dX4_shift_26 rfl (lv_at hl 4 rfl) ?_
      refine q_aload_n Cx dX4_shift_27 rfl (lv_at hl 2 rfl) ?_
      refine q_get (v := .ref (vA V j 9)) Cx hW (oP hj) ic4 7 (by decide) rfl wd_57 dX4_shift_28 ?_
      refine q_aload_n Cx dX4_shift_31 rfl (lv_at hl 2 rfl) ?_
      refine q_get (v := .ref (vA V j 3)) Cx hW (oP hj) ic4 1 (by decide) rfl wd_46 dX4_shift_32 ?_
      refine q_iload_n Cx dX4_shift_35 rfl (lv_at hl 3 rfl) ?_
      obtain ⟨h11, v10, e12, hF⟩ := ld_some hF
      refine qb_iald Cx hW (ai_3 hj) h11 e12 dX4_shift_36 ?_
      obtain ⟨h14, v13, e15, hF⟩ := ld_some hF
      refine qb_iald Cx hW (ai_9 hj) h14 e15 dX4_shift_37 ?_
      refine q_icmp_lt (tgt := 42) Cx dX4_shift_38 (by decide) (fun c16 => ?_) (fun c16 => ?_)
      · have hF := (if_pos c16).symm.trans hF
        refine q_iload Cx dX4_shift_42 (lv_at hl 0 rfl) ?_
        refine q_istore (lv' := [(5, .int r6), (4, .int r6), (3, .int x4), (0, .ref (vA V j 1)), (1, .int l1), (2, .int l2)]) Cx dX4_shift_44 hl (by decide) rfl (fun ls hl => ?_)
        exact wX4_shift_46 hj Cx hret fu hW (lv_sub hl [3, 4, 5, 2, 1, 0] rfl) hF
      · have hF := (if_neg c16).symm.trans hF
        obtain rfl := Option.some.inj hF
        exact hret _ _ _ _ dX4_shift_41 hW
set_option maxRecDepth 100000 in
theorem kX4_shift {l : Launch} {V : VT} {M : Mem} {j : Nat} (hj : j < 11) {B : Blk} {l1 : Int32} {l2 : Int32} {B' : Blk} (hF : FX4_shift B l1 l2 = some B') : MetV l V yX4_shift cX4_shift 6 ({ frames := 2, cells := 0, slots := 0, locals := 45 } : Room) [.ref (vA V j 1), .int l1, .int l2] (jb M j B) (jb M j B') := metV_of (by decide) (Nat.le_of_ble_eq_true rfl) (fun E H0 _ Cx hret H locs ls hW hl => wX4_shift hj Cx hret hW hl hF)
theorem dX4_linkFrom_0 : decode cX4_linkFrom 0 = .ok (.iconst 0, 1) := by decide +kernel
theorem dX4_linkFrom_1 : decode cX4_linkFrom 1 = .ok (.istore_n 2, 1) := by decide +kernel
theorem dX4_linkFrom_2 : decode cX4_linkFrom 2 = .ok (.iload_n 2, 1) := by decide +kernel
theorem dX4_linkFrom_3 : decode cX4_linkFrom 3 = .ok (.aload_n 0, 1) := by decide +kernel
theorem dX4_linkFrom_4 : decode cX4_linkFrom 4 = .ok (.getfield 39, 3) := by decide +kernel
theorem dX4_linkFrom_7 : decode cX4_linkFrom 7 = .ok (.if_icmp .ge 79, 3) := by decide +kernel
theorem dX4_linkFrom_10 : decode cX4_linkFrom 10 = .ok (.aload_n 0, 1) := by decide +kernel
theorem dX4_linkFrom_11 : decode cX4_linkFrom 11 = .ok (.getfield 9, 3) := by decide +kernel
theorem dX4_linkFrom_14 : decode cX4_linkFrom 14 = .ok (.iload_n 1, 1) := by decide +kernel
theorem dX4_linkFrom_15 : decode cX4_linkFrom 15 = .ok (.iaload, 1) := by decide +kernel
theorem dX4_linkFrom_16 : decode cX4_linkFrom 16 = .ok (.aload_n 0, 1) := by decide +kernel
theorem dX4_linkFrom_17 : decode cX4_linkFrom 17 = .ok (.getfield 9, 3) := by decide +kernel
theorem dX4_linkFrom_20 : decode cX4_linkFrom 20 = .ok (.iload_n 2, 1) := by decide +kernel
theorem dX4_linkFrom_21 : decode cX4_linkFrom 21 = .ok (.iaload, 1) := by decide +kernel
theorem dX4_linkFrom_22 : decode cX4_linkFrom 22 = .ok (.if_icmp .eq 23, 3) := by decide +kernel
theorem dX4_linkFrom_25 : decode cX4_linkFrom 25 = .ok (.aload_n 0, 1) := by decide +kernel
theorem dX4_linkFrom_26 : decode cX4_linkFrom 26 = .ok (.getfield 18, 3) := by decide +kernel
theorem dX4_linkFrom_29 : decode cX4_linkFrom 29 = .ok (.iload_n 1, 1) := by decide +kernel
theorem dX4_linkFrom_30 : decode cX4_linkFrom 30 = .ok (.iaload, 1) := by decide +kernel
theorem dX4_linkFrom_31 : decode cX4_linkFrom 31 = .ok (.iload_n 2, 1) := by decide +kernel
theorem dX4_linkFrom_32 : decode cX4_linkFrom 32 = .ok (.if_icmp .eq 13, 3) := by decide +kernel
theorem dX4_linkFrom_35 : decode cX4_linkFrom 35 = .ok (.aload_n 0, 1) := by decide +kernel
theorem dX4_linkFrom_36 : decode cX4_linkFrom 36 = .ok (.getfield 18, 3) := by decide +kernel
theorem dX4_linkFrom_39 : decode cX4_linkFrom 39 = .ok (.iload_n 2, 1) := by decide +kernel
theorem dX4_linkFrom_40 : decode cX4_linkFrom 40 = .ok (.iaload, 1) := by decide +kernel
theorem dX4_linkFrom_41 : decode cX4_linkFrom 41 = .ok (.iload_n 1, 1) := by decide +kernel
theorem dX4_linkFrom_42 : decode cX4_linkFrom 42 = .ok (.if_icmp .ne 7, 3) := by decide +kernel
theorem dX4_linkFrom_45 : decode cX4_linkFrom 45 = .ok (.iconst 1, 1) := by decide +kernel
theorem dX4_linkFrom_46 : decode cX4_linkFrom 46 = .ok (.goto 4, 3) := by decide +kernel
theorem dX4_linkFrom_49 : decode cX4_linkFrom 49 = .ok (.iconst 0, 1) := by decide +kernel
theorem dX4_linkFrom_50 : decode cX4_linkFrom 50 = .ok (.istore_n 3, 1) := by decide +kernel
theorem dX4_linkFrom_51 : decode cX4_linkFrom 51 = .ok (.iload_n 3, 1) := by decide +kernel
theorem dX4_linkFrom_52 : decode cX4_linkFrom 52 = .ok (.ifCond .eq 28, 3) := by decide +kernel
theorem dX4_linkFrom_55 : decode cX4_linkFrom 55 = .ok (.aload_n 0, 1) := by decide +kernel
theorem dX4_linkFrom_56 : decode cX4_linkFrom 56 = .ok (.getfield 36, 3) := by decide +kernel
theorem dX4_linkFrom_59 : decode cX4_linkFrom 59 = .ok (.iload_n 2, 1) := by decide +kernel
theorem dX4_linkFrom_60 : decode cX4_linkFrom 60 = .ok (.iaload, 1) := by decide +kernel
theorem dX4_linkFrom_61 : decode cX4_linkFrom 61 = .ok (.bipush (-6), 2) := by decide +kernel
theorem dX4_linkFrom_63 : decode cX4_linkFrom 63 = .ok (.if_icmp .ne 17, 3) := by decide +kernel
theorem dX4_linkFrom_66 : decode cX4_linkFrom 66 = .ok (.aload_n 0, 1) := by decide +kernel
theorem dX4_linkFrom_67 : decode cX4_linkFrom 67 = .ok (.getfield 36, 3) := by decide +kernel
theorem dX4_linkFrom_70 : decode cX4_linkFrom 70 = .ok (.iload_n 2, 1) := by decide +kernel
theorem dX4_linkFrom_71 : decode cX4_linkFrom 71 = .ok (.aload_n 0, 1) := by decide +kernel
theorem dX4_linkFrom_72 : decode cX4_linkFrom 72 = .ok (.getfield 36, 3) := by decide +kernel
theorem dX4_linkFrom_75 : decode cX4_linkFrom 75 = .ok (.iload_n 1, 1) := by decide +kernel
theorem dX4_linkFrom_76 : decode cX4_linkFrom 76 = .ok (.iaload, 1) := by decide +kernel
theorem dX4_linkFrom_77 : decode cX4_linkFrom 77 = .ok (.iconst 1, 1) := by decide +kernel
theorem dX4_linkFrom_78 : decode cX4_linkFrom 78 = .ok (.iadd, 1) := by decide +kernel
theorem dX4_linkFrom_79 : decode cX4_linkFrom 79 = .ok (.iastore, 1) := by decide +kernel
theorem dX4_linkFrom_80 : decode cX4_linkFrom 80 = .ok (.iinc 2 1, 3) := by decide +kernel
theorem dX4_linkFrom_83 : decode cX4_linkFrom 83 = .ok (.goto (-81), 3) := by decide +kernel
theorem dX4_linkFrom_86 : decode cX4_linkFrom 86 = .ok (.return_, 1) := by decide +kernel
theorem okX4_linkFrom : CalOK yX4_linkFrom cX4_linkFrom 4 (none) 1 := ⟨wd_18, wd_503, by decide +kernel⟩
theorem ovX4_linkFrom : VirOK yX4_linkFrom := ⟨wd_502, wd_9⟩
def FX4_linkFrom_50 (k2 : Int32 → Int32 → Blk → Option Blk) (l1 : Int32) (l2 : Int32) (s0 : Int32) (B : Blk) : Option Blk :=
  if s0 = 0 then
    lt1 (l2 + (1 : Int32)) fun x10 =>
    k2 l1 x10 B
  else
    ld (B 11) 24 l2 fun v12 =>
    if v12 = (-6 : Int32) then
      ld (B 11) 24 l1 fun v18 =>
      stb B 11 24 l2 (v18 + (1 : Int32)) fun B21 =>
      lt1 (l2 + (1 : Int32)) fun x24 =>
      k2 l1 x24 B21
    else
      lt1 (l2 + (1 : Int32)) fun x16 =>
      k2 l1 x16 B
set_option maxRecDepth 100000 in
set_option maxHeartbeats 4000000 in
theorem wX4_linkFrom_50 {E : WE} {V : VT} {A : Nat → Prop} {H0 : Heap} {M : Mem} {j : Nat} (hj : j < 11) (Cx : CX E RX4 cX4_linkFrom 4 0 0) {B' : Blk} (hret : RetV E V A H0 cX4_linkFrom (jb M j B')) {k2 : Int32 → Int32 → Blk → Option Blk} (hk2 : ∀ {H : Heap} {locs : List Loc} {ls : Array Slot} {B : Blk} {l1 : Int32} {l2 : Int32}, Wd V A H0 (jb M j B) (eS E) H locs → lv_has ls 4 [(0, .ref (vA V j 1)), (1, .int l1), (2, .int l2)] → k2 l1 l2 B = some B' → Wq E H locs 2 ls []) {H : Heap} {locs : List Loc} {ls : Array Slot} {l1 : Int32} {l2 : Int32} {s0 : Int32} {B : Blk} (hW : Wd V A H0 (jb M j B) (eS E) H locs) (hl : lv_has ls 4 [(0, .ref (vA V j 1)), (1, .int l1), (2, .int l2)]) (hF : FX4_linkFrom_50 k2 l1 l2 s0 B = some B') : Wq E H locs 50 ls [.int s0] := by
  unfold FX4_linkFrom_50 at hF
  refine q_istore_n (lv' := [(3, .int s0), (0, .ref (vA V j 1)), (1, .int l1), (2, .int l2)]) Cx dX4_linkFrom_50 rfl hl (by decide) rfl (fun ls hl => ?_)
  refine q_iload_n Cx dX4_linkFrom_51 rfl (lv_at hl 0 rfl) ?_
  refine q_if_eq (tgt := 80) Cx dX4_linkFrom_52 (by decide) (fun c9 => ?_) (fun c9 => ?_)
  · have hF := (if_pos c9).symm.trans hF
    obtain ⟨x10, e11, hF⟩ := lt1_some hF
    refine q_iinc (k := 3) (v := x10) (lv' := [(2, .int x10), (3, .int s0), (0, .ref (vA V j 1)), (1, .int l1)]) Cx dX4_linkFrom_80 hl rfl e11.symm (by decide) rfl (fun ls hl => ?_)
    refine q_goto (tgt := 2) Cx dX4_linkFrom_83 (by decide) ?_
    exact hk2 hW (lv_sub hl [2, 3, 0] rfl) hF
  · have hF := (if_neg c9).symm.trans hF
    refine q_aload_n Cx dX4_linkFrom_55 rfl (lv_at hl 1 rfl) ?_
    refine q_get (v := .ref (vA V j 11)) Cx hW (oP hj) ic4 9 (by decide) rfl wd_60 dX4_linkFrom_56 ?_
    refine q_iload_n Cx dX4_linkFrom_59 rfl (lv_at hl 3 rfl) ?_
    obtain ⟨h13, v12, e14, hF⟩ := ld_some hF
    refine qb_iald Cx hW (ai_11 hj) h13 e14 dX4_linkFrom_60 ?_
    refine q_bipush (v := (-6 : Int32)) Cx dX4_linkFrom_61 (by decide) ?_
    refine q_icmp_ne (tgt := 80) Cx dX4_linkFrom_63 (by decide) (fun c15 => ?_) (fun c15 => ?_)
    · have hF := (if_neg c15).symm.trans hF
      obtain ⟨x16, e17, hF⟩ := lt1_some hF
      refine q_iinc (k := 3) (v := x16) (lv' := [(2, .int x16), (3, .int s0), (0, .ref (vA V j 1)), (1, .int l1)]) Cx dX4_linkFrom_80 hl rfl e17.symm (by decide) rfl (fun ls hl => ?_)
      refine q_goto (tgt := 2) Cx dX4_linkFrom_83 (by decide) ?_
      exact hk2 hW (lv_sub hl [2, 3, 0] rfl) hF
    · have hF := (if_pos c15).symm.trans hF
      refine q_aload_n Cx dX4_linkFrom_66 rfl (lv_at hl 1 rfl) ?_
      refine q_get (v := .ref (vA V j 11)) Cx hW (oP hj) ic4 9 (by decide) rfl wd_60 dX4_linkFrom_67 ?_
      refine q_iload_n Cx dX4_linkFrom_70 rfl (lv_at hl 3 rfl) ?_
      refine q_aload_n Cx dX4_linkFrom_71 rfl (lv_at hl 1 rfl) ?_
      refine q_get (v := .ref (vA V j 11)) Cx hW (oP hj) ic4 9 (by decide) rfl wd_60 dX4_linkFrom_72 ?_
      refine q_iload_n Cx dX4_linkFrom_75 rfl (lv_at hl 2 rfl) ?_
      obtain ⟨h19, v18, e20, hF⟩ := ld_some hF
      refine qb_iald Cx hW (ai_11 hj) h19 e20 dX4_linkFrom_76 ?_
      refine q_iconst (v := (1 : Int32)) Cx dX4_linkFrom_77 (by decide) ?_
      refine q_iadd Cx dX4_linkFrom_78 ?_
      obtain ⟨h22, B21, e23, hF⟩ := stb_some hF
      refine qb_iast Cx hW (ai_11 hj) h22 e23 dX4_linkFrom_79 (fun H locs hW => ?_)
      obtain ⟨x24, e25, hF⟩ := lt1_some hF
      refine q_iinc (k := 3) (v := x24) (lv' := [(2, .int x24), (3, .int s0), (0, .ref (vA V j 1)), (1, .int l1)]) Cx dX4_linkFrom_80 hl rfl e25.symm (by decide) rfl (fun ls hl => ?_)
      refine q_goto (tgt := 2) Cx dX4_linkFrom_83 (by decide) ?_
      exact hk2 hW (lv_sub hl [2, 3, 0] rfl) hF
def FX4_linkFrom_45 (k2 : Int32 → Int32 → Blk → Option Blk) (l1 : Int32) (l2 : Int32) (B : Blk) : Option Blk :=
  FX4_linkFrom_50 k2 l1 l2 (1 : Int32) B
set_option maxRecDepth 100000 in
set_option maxHeartbeats 4000000 in
theorem wX4_linkFrom_45 {E : WE} {V : VT} {A : Nat → Prop} {H0 : Heap} {M : Mem} {j : Nat} (hj : j < 11) (Cx : CX E RX4 cX4_linkFrom 4 0 0) {B' : Blk} (hret : RetV E V A H0 cX4_linkFrom (jb M j B')) {k2 : Int32 → Int32 → Blk → Option Blk} (hk2 : ∀ {H : Heap} {locs : List Loc} {ls : Array Slot} {B : Blk} {l1 : Int32} {l2 : Int32}, Wd V A H0 (jb M j B) (eS E) H locs → lv_has ls 4 [(0, .ref (vA V j 1)), (1, .int l1), (2, .int l2)] → k2 l1 l2 B = some B' → Wq E H locs 2 ls []) {H : Heap} {locs : List Loc} {ls : Array Slot} {l1 : Int32} {l2 : Int32} {B : Blk} (hW : Wd V A H0 (jb M j B) (eS E) H locs) (hl : lv_has ls 4 [(0, .ref (vA V j 1)), (1, .int l1), (2, .int l2)]) (hF : FX4_linkFrom_45 k2 l1 l2 B = some B') : Wq E H locs 45 ls [] := by
  unfold FX4_linkFrom_45 at hF
  refine q_iconst (v := (1 : Int32)) Cx dX4_linkFrom_45 (by decide) ?_
  refine q_goto (tgt := 50) Cx dX4_linkFrom_46 (by decide) ?_
  exact wX4_linkFrom_50 hj Cx hret hk2 hW (lv_sub hl [0, 1, 2] rfl) hF
def FX4_linkFrom_2s (k2 : Int32 → Int32 → Blk → Option Blk) (l1 : Int32) (l2 : Int32) (B : Blk) : Option Blk :=
  if ((B 1) 0) ≤ l2 then
    some B
  else
    ld (B 3) 24 l1 fun v2 =>
    ld (B 3) 24 l2 fun v5 =>
    if v2 = v5 then
      FX4_linkFrom_45 k2 l1 l2 B
    else
      ld (B 5) 24 l1 fun v26 =>
      if v26 = l2 then
        FX4_linkFrom_45 k2 l1 l2 B
      else
        ld (B 5) 24 l2 fun v30 =>
        if v30 = l1 then
          FX4_linkFrom_45 k2 l1 l2 B
        else
          FX4_linkFrom_50 k2 l1 l2 (0 : Int32) B
set_option maxRecDepth 100000 in
set_option maxHeartbeats 4000000 in
theorem wX4_linkFrom_2s {E : WE} {V : VT} {A : Nat → Prop} {H0 : Heap} {M : Mem} {j : Nat} (hj : j < 11) (Cx : CX E RX4 cX4_linkFrom 4 0 0) {B' : Blk} (hret : RetV E V A H0 cX4_linkFrom (jb M j B')) {k2 : Int32 → Int32 → Blk → Option Blk} (hk2 : ∀ {H : Heap} {locs : List Loc} {ls : Array Slot} {B : Blk} {l1 : Int32} {l2 : Int32}, Wd V A H0 (jb M j B) (eS E) H locs → lv_has ls 4 [(0, .ref (vA V j 1)), (1, .int l1), (2, .int l2)] → k2 l1 l2 B = some B' → Wq E H locs 2 ls []) {H : Heap} {locs : List Loc} {ls : Array Slot} {l1 : Int32} {l2 : Int32} {B : Blk} (hW : Wd V A H0 (jb M j B) (eS E) H locs) (hl : lv_has ls 4 [(0, .ref (vA V j 1)), (1, .int l1), (2, .int l2)]) (hF : FX4_linkFrom_2s k2 l1 l2 B = some B') : Wq E H locs 2 ls [] := by
  unfold FX4_linkFrom_2s at hF
  refine q_iload_n Cx dX4_linkFrom_2 rfl (lv_at hl 2 rfl) ?_
  refine q_aload_n Cx dX4_linkFrom_3 rfl (lv_at hl 0 rfl) ?_
  refine qb_get (v := .int ((B 1) 0)) Cx hW (oP hj) ic4 0 (by decide) rfl wd_44 dX4_linkFrom_4 ?_
  refine q_icmp_ge (tgt := 86) Cx dX4_linkFrom_7 (by decide) (fun c1 => ?_) (fun c1 => ?_)
  · have hF := (if_pos c1).symm.trans hF
    obtain rfl := Option.some.inj hF
    exact hret _ _ _ _ dX4_linkFrom_86 hW
  · have hF := (if_neg c1).symm.trans hF
    refine q_aload_n Cx dX4_linkFrom_10 rfl (lv_at hl 0 rfl) ?_
    refine q_get (v := .ref (vA V j 3)) Cx hW (oP hj) ic4 1 (by decide) rfl wd_46 dX4_linkFrom_11 ?_
    refine q_iload_n Cx dX4_linkFrom_14 rfl (lv_at hl 1 rfl) ?_
    obtain ⟨h3, v2, e4, hF⟩ := ld_some hF
    refine qb_iald Cx hW (ai_3 hj) h3 e4 dX4_linkFrom_15 ?_
    refine q_aload_n Cx dX4_linkFrom_16 rfl (lv_at hl 0 rfl) ?_
    refine q_get (v := .ref (vA V j 3)) Cx hW (oP hj) ic4 1 (by decide) rfl wd_46 dX4_linkFrom_17 ?_
    refine q_iload_n Cx dX4_linkFrom_20 rfl (lv_at hl 2 rfl) ?_
    obtain ⟨h6, v5, e7, hF⟩ := ld_some hF
    refine qb_iald Cx hW (ai_3 hj) h6 e7 dX4_linkFrom_21 ?_
    refine q_icmp_eq (tgt := 45) Cx dX4_linkFrom_22 (by decide) (fun c8 => ?_) (fun c8 => ?_)
    · have hF := (if_pos c8).symm.trans hF
      exact wX4_linkFrom_45 hj Cx hret hk2 hW (lv_sub hl [0, 1, 2] rfl) hF
    · have hF := (if_neg c8).symm.trans hF
      refine q_aload_n Cx dX4_linkFrom_25 rfl (lv_at hl 0 rfl) ?_
      refine q_get (v := .ref (vA V j 5)) Cx hW (oP hj) ic4 3 (by decide) rfl wd_50 dX4_linkFrom_26 ?_
      refine q_iload_n Cx dX4_linkFrom_29 rfl (lv_at hl 1 rfl) ?_
      obtain ⟨h27, v26, e28, hF⟩ := ld_some hF
      refine qb_iald Cx hW (ai_5 hj) h27 e28 dX4_linkFrom_30 ?_
      refine q_iload_n Cx dX4_linkFrom_31 rfl (lv_at hl 2 rfl) ?_
      refine q_icmp_eq (tgt := 45) Cx dX4_linkFrom_32 (by decide) (fun c29 => ?_) (fun c29 => ?_)
      · have hF := (if_pos c29).symm.trans hF
        exact wX4_linkFrom_45 hj Cx hret hk2 hW (lv_sub hl [0, 1, 2] rfl) hF
      · have hF := (if_neg c29).symm.trans hF
        refine q_aload_n Cx dX4_linkFrom_35 rfl (lv_at hl 0 rfl) ?_
        refine q_get (v := .ref (vA V j 5)) Cx hW (oP hj) ic4 3 (by decide) rfl wd_50 dX4_linkFrom_36 ?_
        refine q_iload_n Cx dX4_linkFrom_39 rfl (lv_at hl 2 rfl) ?_
        obtain ⟨h31, v30, e32, hF⟩ := ld_some hF
        refine qb_iald Cx hW (ai_5 hj) h31 e32 dX4_linkFrom_40 ?_
        refine q_iload_n Cx dX4_linkFrom_41 rfl (lv_at hl 1 rfl) ?_
        refine q_icmp_ne (tgt := 49) Cx dX4_linkFrom_42 (by decide) (fun c33 => ?_) (fun c33 => ?_)
        · have hF := (if_neg c33).symm.trans hF
          refine q_iconst (v := (0 : Int32)) Cx dX4_linkFrom_49 (by decide) ?_
          exact wX4_linkFrom_50 hj Cx hret hk2 hW (lv_sub hl [0, 1, 2] rfl) hF
        · have hF := (if_pos c33).symm.trans hF
          exact wX4_linkFrom_45 hj Cx hret hk2 hW (lv_sub hl [0, 1, 2] rfl) hF
def FX4_linkFrom_2 : Nat → Int32 → Int32 → Blk → Option Blk
  | 0 => fun _ _ _ => none
  | n + 1 => FX4_linkFrom_2s (FX4_linkFrom_2 n)
set_option maxRecDepth 100000 in
theorem wX4_linkFrom_2 {E : WE} {V : VT} {A : Nat → Prop} {H0 : Heap} {M : Mem} {j : Nat} (hj : j < 11) (Cx : CX E RX4 cX4_linkFrom 4 0 0) {B' : Blk} (hret : RetV E V A H0 cX4_linkFrom (jb M j B')) : ∀ (n : Nat) {H : Heap} {locs : List Loc} {ls : Array Slot} {l1 : Int32} {l2 : Int32} {B : Blk}, Wd V A H0 (jb M j B) (eS E) H locs → lv_has ls 4 [(0, .ref (vA V j 1)), (1, .int l1), (2, .int l2)] → FX4_linkFrom_2 n l1 l2 B = some B' → Wq E H locs 2 ls [] := by
  intro n
  induction n with
  | zero => intro _ _ _ _ _ _ hW hl hF; cases hF
  | succ n ih => intro _ _ _ _ _ _ hW hl hF; exact wX4_linkFrom_2s hj Cx hret ih hW hl hF
def FX4_linkFrom (B : Blk) (l1 : Int32) : Option Blk :=
  FX4_linkFrom_2 fu l1 (0 : Int32) B
set_option maxRecDepth 100000 in
set_option maxHeartbeats 4000000 in
theorem wX4_linkFrom {E : WE} {V : VT} {A : Nat → Prop} {H0 : Heap} {M : Mem} {j : Nat} (hj : j < 11) (Cx : CX E RX4 cX4_linkFrom 4 0 0) {B' : Blk} (hret : RetV E V A H0 cX4_linkFrom (jb M j B')) {H : Heap} {locs : List Loc} {ls : Array Slot} {l1 : Int32} {B : Blk} (hW : Wd V A H0 (jb M j B) (eS E) H locs) (hl : lv_has ls 4 [(0, .ref (vA V j 1)), (1, .int l1)]) (hF : FX4_linkFrom B l1 = some B') : Wq E H locs 0 ls [] := by
  unfold FX4_linkFrom at hF
  refine q_iconst (v := (0 : Int32)) Cx dX4_linkFrom_0 (by decide) ?_
  refine q_istore_n (lv' := [(2, .int (0 : Int32)), (0, .ref (vA V j 1)), (1, .int l1)]) Cx dX4_linkFrom_1 rfl hl (by decide) rfl (fun ls hl => ?_)
  exact wX4_linkFrom_2 hj Cx hret fu hW (lv_sub hl [1, 2, 0] rfl) hF
set_option maxRecDepth 100000 in
theorem kX4_linkFrom {l : Launch} {V : VT} {M : Mem} {j : Nat} (hj : j < 11) {B : Blk} {l1 : Int32} {B' : Blk} (hF : FX4_linkFrom B l1 = some B') : MetV l V yX4_linkFrom cX4_linkFrom 4 ({ frames := 0, cells := 0, slots := 0, locals := 0 } : Room) [.ref (vA V j 1), .int l1] (jb M j B) (jb M j B') := metV_of (by decide) (Nat.le_of_ble_eq_true rfl) (fun E H0 _ Cx hret H locs ls hW hl => wX4_linkFrom hj Cx hret hW hl hF)
theorem dX4_measureFrom_0 : decode cX4_measureFrom 0 = .ok (.iconst 0, 1) := by decide +kernel
theorem dX4_measureFrom_1 : decode cX4_measureFrom 1 = .ok (.istore_n 2, 1) := by decide +kernel
theorem dX4_measureFrom_2 : decode cX4_measureFrom 2 = .ok (.iload_n 2, 1) := by decide +kernel
theorem dX4_measureFrom_3 : decode cX4_measureFrom 3 = .ok (.aload_n 0, 1) := by decide +kernel
theorem dX4_measureFrom_4 : decode cX4_measureFrom 4 = .ok (.getfield 39, 3) := by decide +kernel
theorem dX4_measureFrom_7 : decode cX4_measureFrom 7 = .ok (.if_icmp .ge 26, 3) := by decide +kernel
theorem dX4_measureFrom_10 : decode cX4_measureFrom 10 = .ok (.aload_n 0, 1) := by decide +kernel
theorem dX4_measureFrom_11 : decode cX4_measureFrom 11 = .ok (.getfield 36, 3) := by decide +kernel
theorem dX4_measureFrom_14 : decode cX4_measureFrom 14 = .ok (.iload_n 2, 1) := by decide +kernel
theorem dX4_measureFrom_15 : decode cX4_measureFrom 15 = .ok (.iload_n 2, 1) := by decide +kernel
theorem dX4_measureFrom_16 : decode cX4_measureFrom 16 = .ok (.iload_n 1, 1) := by decide +kernel
theorem dX4_measureFrom_17 : decode cX4_measureFrom 17 = .ok (.if_icmp .ne 7, 3) := by decide +kernel
theorem dX4_measureFrom_20 : decode cX4_measureFrom 20 = .ok (.iconst 0, 1) := by decide +kernel
theorem dX4_measureFrom_21 : decode cX4_measureFrom 21 = .ok (.goto 5, 3) := by decide +kernel
theorem dX4_measureFrom_24 : decode cX4_measureFrom 24 = .ok (.bipush (-6), 2) := by decide +kernel
theorem dX4_measureFrom_26 : decode cX4_measureFrom 26 = .ok (.iastore, 1) := by decide +kernel
theorem dX4_measureFrom_27 : decode cX4_measureFrom 27 = .ok (.iinc 2 1, 3) := by decide +kernel
theorem dX4_measureFrom_30 : decode cX4_measureFrom 30 = .ok (.goto (-28), 3) := by decide +kernel
theorem dX4_measureFrom_33 : decode cX4_measureFrom 33 = .ok (.iconst 0, 1) := by decide +kernel
theorem dX4_measureFrom_34 : decode cX4_measureFrom 34 = .ok (.istore_n 2, 1) := by decide +kernel
theorem dX4_measureFrom_35 : decode cX4_measureFrom 35 = .ok (.iload_n 2, 1) := by decide +kernel
theorem dX4_measureFrom_36 : decode cX4_measureFrom 36 = .ok (.aload_n 0, 1) := by decide +kernel
theorem dX4_measureFrom_37 : decode cX4_measureFrom 37 = .ok (.getfield 39, 3) := by decide +kernel
theorem dX4_measureFrom_40 : decode cX4_measureFrom 40 = .ok (.if_icmp .ge 40, 3) := by decide +kernel
theorem dX4_measureFrom_43 : decode cX4_measureFrom 43 = .ok (.iconst 0, 1) := by decide +kernel
theorem dX4_measureFrom_44 : decode cX4_measureFrom 44 = .ok (.istore_n 3, 1) := by decide +kernel
theorem dX4_measureFrom_45 : decode cX4_measureFrom 45 = .ok (.iload_n 3, 1) := by decide +kernel
theorem dX4_measureFrom_46 : decode cX4_measureFrom 46 = .ok (.aload_n 0, 1) := by decide +kernel
theorem dX4_measureFrom_47 : decode cX4_measureFrom 47 = .ok (.getfield 39, 3) := by decide +kernel
theorem dX4_measureFrom_50 : decode cX4_measureFrom 50 = .ok (.if_icmp .ge 24, 3) := by decide +kernel
theorem dX4_measureFrom_53 : decode cX4_measureFrom 53 = .ok (.aload_n 0, 1) := by decide +kernel
theorem dX4_measureFrom_54 : decode cX4_measureFrom 54 = .ok (.getfield 36, 3) := by decide +kernel
theorem dX4_measureFrom_57 : decode cX4_measureFrom 57 = .ok (.iload_n 3, 1) := by decide +kernel
theorem dX4_measureFrom_58 : decode cX4_measureFrom 58 = .ok (.iaload, 1) := by decide +kernel
theorem dX4_measureFrom_59 : decode cX4_measureFrom 59 = .ok (.iload_n 2, 1) := by decide +kernel
theorem dX4_measureFrom_60 : decode cX4_measureFrom 60 = .ok (.if_icmp .ne 8, 3) := by decide +kernel
theorem dX4_measureFrom_63 : decode cX4_measureFrom 63 = .ok (.aload_n 0, 1) := by decide +kernel
theorem dX4_measureFrom_64 : decode cX4_measureFrom 64 = .ok (.iload_n 3, 1) := by decide +kernel
theorem dX4_measureFrom_65 : decode cX4_measureFrom 65 = .ok (.invokevirtual 85, 3) := by decide +kernel
theorem dX4_measureFrom_68 : decode cX4_measureFrom 68 = .ok (.iinc 3 1, 3) := by decide +kernel
theorem dX4_measureFrom_71 : decode cX4_measureFrom 71 = .ok (.goto (-26), 3) := by decide +kernel
theorem dX4_measureFrom_74 : decode cX4_measureFrom 74 = .ok (.iinc 2 1, 3) := by decide +kernel
theorem dX4_measureFrom_77 : decode cX4_measureFrom 77 = .ok (.goto (-42), 3) := by decide +kernel
theorem dX4_measureFrom_80 : decode cX4_measureFrom 80 = .ok (.return_, 1) := by decide +kernel
theorem okX4_measureFrom : CalOK yX4_measureFrom cX4_measureFrom 4 (none) 1 := ⟨wd_18, wd_499, by decide +kernel⟩
theorem ovX4_measureFrom : VirOK yX4_measureFrom := ⟨wd_497, wd_498⟩
def FX4_measureFrom_45s (k35 : Int32 → Blk → Option Blk) (k45 : Int32 → Int32 → Blk → Option Blk) (l2 : Int32) (l3 : Int32) (B : Blk) : Option Blk :=
  if ((B 1) 0) ≤ l3 then
    lt1 (l2 + (1 : Int32)) fun x4 =>
    k35 x4 B
  else
    ld (B 11) 24 l3 fun v6 =>
    if v6 = l2 then
      c1 (FX4_linkFrom B l3) fun B14 =>
      lt1 (l3 + (1 : Int32)) fun x15 =>
      k45 l2 x15 B14
    else
      lt1 (l3 + (1 : Int32)) fun x10 =>
      k45 l2 x10 B
set_option maxRecDepth 100000 in
set_option maxHeartbeats 4000000 in
theorem wX4_measureFrom_45s {E : WE} {V : VT} {A : Nat → Prop} {H0 : Heap} {M : Mem} {j : Nat} (hj : j < 11) (Cx : CX E RX4 cX4_measureFrom 4 1 23) {B' : Blk} (hret : RetV E V A H0 cX4_measureFrom (jb M j B')) {k35 : Int32 → Blk → Option Blk} (hk35 : ∀ {H : Heap} {locs : List Loc} {ls : Array Slot} {B : Blk} {l2 : Int32}, Wd V A H0 (jb M j B) (eS E) H locs → lv_has ls 4 [(0, .ref (vA V j 1)), (2, .int l2)] → k35 l2 B = some B' → Wq E H locs 35 ls []) {k45 : Int32 → Int32 → Blk → Option Blk} (hk45 : ∀ {H : Heap} {locs : List Loc} {ls : Array Slot} {B : Blk} {l2 : Int32} {l3 : Int32}, Wd V A H0 (jb M j B) (eS E) H locs → lv_has ls 4 [(0, .ref (vA V j 1)), (2, .int l2), (3, .int l3)] → k45 l2 l3 B = some B' → Wq E H locs 45 ls []) {H : Heap} {locs : List Loc} {ls : Array Slot} {l2 : Int32} {l3 : Int32} {B : Blk} (hW : Wd V A H0 (jb M j B) (eS E) H locs) (hl : lv_has ls 4 [(0, .ref (vA V j 1)), (2, .int l2), (3, .int l3)]) (hF : FX4_measureFrom_45s k35 k45 l2 l3 B = some B') : Wq E H locs 45 ls [] := by
  unfold FX4_measureFrom_45s at hF
  refine q_iload_n Cx dX4_measureFrom_45 rfl (lv_at hl 2 rfl) ?_
  refine q_aload_n Cx dX4_measureFrom_46 rfl (lv_at hl 0 rfl) ?_
  refine qb_get (v := .int ((B 1) 0)) Cx hW (oP hj) ic4 0 (by decide) rfl wd_44 dX4_measureFrom_47 ?_
  refine q_icmp_ge (tgt := 74) Cx dX4_measureFrom_50 (by decide) (fun c3 => ?_) (fun c3 => ?_)
  · have hF := (if_pos c3).symm.trans hF
    obtain ⟨x4, e5, hF⟩ := lt1_some hF
    refine q_iinc (k := 1) (v := x4) (lv' := [(2, .int x4), (0, .ref (vA V j 1)), (3, .int l3)]) Cx dX4_measureFrom_74 hl rfl e5.symm (by decide) rfl (fun ls hl => ?_)
    refine q_goto (tgt := 35) Cx dX4_measureFrom_77 (by decide) ?_
    exact hk35 hW (lv_sub hl [1, 0] rfl) hF
  · have hF := (if_neg c3).symm.trans hF
    refine q_aload_n Cx dX4_measureFrom_53 rfl (lv_at hl 0 rfl) ?_
    refine q_get (v := .ref (vA V j 11)) Cx hW (oP hj) ic4 9 (by decide) rfl wd_60 dX4_measureFrom_54 ?_
    refine q_iload_n Cx dX4_measureFrom_57 rfl (lv_at hl 2 rfl) ?_
    obtain ⟨h7, v6, e8, hF⟩ := ld_some hF
    refine qb_iald Cx hW (ai_11 hj) h7 e8 dX4_measureFrom_58 ?_
    refine q_iload_n Cx dX4_measureFrom_59 rfl (lv_at hl 1 rfl) ?_
    refine q_icmp_ne (tgt := 68) Cx dX4_measureFrom_60 (by decide) (fun c9 => ?_) (fun c9 => ?_)
    · have hF := (if_neg c9).symm.trans hF
      obtain ⟨x10, e11, hF⟩ := lt1_some hF
      refine q_iinc (k := 2) (v := x10) (lv' := [(3, .int x10), (0, .ref (vA V j 1)), (2, .int l2)]) Cx dX4_measureFrom_68 hl rfl e11.symm (by decide) rfl (fun ls hl => ?_)
      refine q_goto (tgt := 45) Cx dX4_measureFrom_71 (by decide) ?_
      exact hk45 hW (lv_sub hl [1, 2, 0] rfl) hF
    · have hF := (if_pos c9).symm.trans hF
      refine q_aload_n Cx dX4_measureFrom_63 rfl (lv_at hl 0 rfl) ?_
      refine q_iload_n Cx dX4_measureFrom_64 rfl (lv_at hl 2 rfl) ?_
      obtain ⟨B14, e13, hF⟩ := c1_some hF
      refine q_callV (as := [.int l3]) (rest := []) Cx (kX4_linkFrom hj e13) okX4_linkFrom ovX4_linkFrom wd_500 ⟨rfl, rfl, by decide, by decide⟩ hW (oP hj) ic4 rfl hl.1 (Nat.le_of_ble_eq_true rfl) rfl dX4_measureFrom_65 (fun H locs hW => ?_)
      obtain ⟨x15, e16, hF⟩ := lt1_some hF
      refine q_iinc (k := 2) (v := x15) (lv' := [(3, .int x15), (0, .ref (vA V j 1)), (2, .int l2)]) Cx dX4_measureFrom_68 hl rfl e16.symm (by decide) rfl (fun ls hl => ?_)
      refine q_goto (tgt := 45) Cx dX4_measureFrom_71 (by decide) ?_
      exact hk45 hW (lv_sub hl [1, 2, 0] rfl) hF
def FX4_measureFrom_45 (k35 : Int32 → Blk → Option Blk) : Nat → Int32 → Int32 → Blk → Option Blk
  | 0 => fun _ _ _ => none
  | n + 1 => FX4_measureFrom_45s k35 (FX4_measureFrom_45 k35 n)
set_option maxRecDepth 100000 in
theorem wX4_measureFrom_45 {E : WE} {V : VT} {A : Nat → Prop} {H0 : Heap} {M : Mem} {j : Nat} (hj : j < 11) (Cx : CX E RX4 cX4_measureFrom 4 1 23) {B' : Blk} (hret : RetV E V A H0 cX4_measureFrom (jb M j B')) {k35 : Int32 → Blk → Option Blk} (hk35 : ∀ {H : Heap} {locs : List Loc} {ls : Array Slot} {B : Blk} {l2 : Int32}, Wd V A H0 (jb M j B) (eS E) H locs → lv_has ls 4 [(0, .ref (vA V j 1)), (2, .int l2)] → k35 l2 B = some B' → Wq E H locs 35 ls []) : ∀ (n : Nat) {H : Heap} {locs : List Loc} {ls : Array Slot} {l2 : Int32} {l3 : Int32} {B : Blk}, Wd V A H0 (jb M j B) (eS E) H locs → lv_has ls 4 [(0, .ref (vA V j 1)), (2, .int l2), (3, .int l3)] → FX4_measureFrom_45 k35 n l2 l3 B = some B' → Wq E H locs 45 ls [] := by
  intro n
  induction n with
  | zero => intro _ _ _ _ _ _ hW hl hF; cases hF
  | succ n ih => intro _ _ _ _ _ _ hW hl hF; exact wX4_measureFrom_45s hj Cx hret hk35 ih hW hl hF
def FX4_measureFrom_35s (k35 : Int32 → Blk → Option Blk) (l2 : Int32) (B : Blk) : Option Blk :=
  if ((B 1) 0) ≤ l2 then
    some B
  else
    FX4_measureFrom_45 k35 fu l2 (0 : Int32) B
set_option maxRecDepth 100000 in
set_option maxHeartbeats 4000000 in
theorem wX4_measureFrom_35s {E : WE} {V : VT} {A : Nat → Prop} {H0 : Heap} {M : Mem} {j : Nat} (hj : j < 11) (Cx : CX E RX4 cX4_measureFrom 4 1 23) {B' : Blk} (hret : RetV E V A H0 cX4_measureFrom (jb M j B')) {k35 : Int32 → Blk → Option Blk} (hk35 : ∀ {H : Heap} {locs : List Loc} {ls : Array Slot} {B : Blk} {l2 : Int32}, Wd V A H0 (jb M j B) (eS E) H locs → lv_has ls 4 [(0, .ref (vA V j 1)), (2, .int l2)] → k35 l2 B = some B' → Wq E H locs 35 ls []) {H : Heap} {locs : List Loc} {ls : Array Slot} {l2 : Int32} {B : Blk} (hW : Wd V A H0 (jb M j B) (eS E) H locs) (hl : lv_has ls 4 [(0, .ref (vA V j 1)), (2, .int l2)]) (hF : FX4_measureFrom_35s k35 l2 B = some B') : Wq E H locs 35 ls [] := by
  unfold FX4_measureFrom_35s at hF
  refine q_iload_n Cx dX4_measureFrom_35 rfl (lv_at hl 1 rfl) ?_
  refine q_aload_n Cx dX4_measureFrom_36 rfl (lv_at hl 0 rfl) ?_
  refine qb_get (v := .int ((B 1) 0)) Cx hW (oP hj) ic4 0 (by decide) rfl wd_44 dX4_measureFrom_37 ?_
  refine q_icmp_ge (tgt := 80) Cx dX4_measureFrom_40 (by decide) (fun c2 => ?_) (fun c2 => ?_)
  · have hF := (if_pos c2).symm.trans hF
    obtain rfl := Option.some.inj hF
    exact hret _ _ _ _ dX4_measureFrom_80 hW
  · have hF := (if_neg c2).symm.trans hF
    refine q_iconst (v := (0 : Int32)) Cx dX4_measureFrom_43 (by decide) ?_
    refine q_istore_n (lv' := [(3, .int (0 : Int32)), (0, .ref (vA V j 1)), (2, .int l2)]) Cx dX4_measureFrom_44 rfl hl (by decide) rfl (fun ls hl => ?_)
    exact wX4_measureFrom_45 hj Cx hret hk35 fu hW (lv_sub hl [1, 2, 0] rfl) hF
def FX4_measureFrom_35 : Nat → Int32 → Blk → Option Blk
  | 0 => fun _ _ => none
  | n + 1 => FX4_measureFrom_35s (FX4_measureFrom_35 n)
set_option maxRecDepth 100000 in
theorem wX4_measureFrom_35 {E : WE} {V : VT} {A : Nat → Prop} {H0 : Heap} {M : Mem} {j : Nat} (hj : j < 11) (Cx : CX E RX4 cX4_measureFrom 4 1 23) {B' : Blk} (hret : RetV E V A H0 cX4_measureFrom (jb M j B')) : ∀ (n : Nat) {H : Heap} {locs : List Loc} {ls : Array Slot} {l2 : Int32} {B : Blk}, Wd V A H0 (jb M j B) (eS E) H locs → lv_has ls 4 [(0, .ref (vA V j 1)), (2, .int l2)] → FX4_measureFrom_35 n l2 B = some B' → Wq E H locs 35 ls [] := by
  intro n
  induction n with
  | zero => intro _ _ _ _ _ hW hl hF; cases hF
  | succ n ih => intro _ _ _ _ _ hW hl hF; exact wX4_measureFrom_35s hj Cx hret ih hW hl hF
def FX4_measureFrom_26 (k2 : Int32 → Int32 → Blk → Option Blk) (l1 : Int32) (l2 : Int32) (s0 : Int32) (s1 : Int32) (B : Blk) : Option Blk :=
  stb B 11 24 s1 s0 fun B18 =>
  lt1 (l2 + (1 : Int32)) fun x21 =>
  k2 l1 x21 B18
set_option maxRecDepth 100000 in
set_option maxHeartbeats 4000000 in
theorem wX4_measureFrom_26 {E : WE} {V : VT} {A : Nat → Prop} {H0 : Heap} {M : Mem} {j : Nat} (hj : j < 11) (Cx : CX E RX4 cX4_measureFrom 4 1 23) {B' : Blk} (hret : RetV E V A H0 cX4_measureFrom (jb M j B')) {k2 : Int32 → Int32 → Blk → Option Blk} (hk2 : ∀ {H : Heap} {locs : List Loc} {ls : Array Slot} {B : Blk} {l1 : Int32} {l2 : Int32}, Wd V A H0 (jb M j B) (eS E) H locs → lv_has ls 4 [(0, .ref (vA V j 1)), (1, .int l1), (2, .int l2)] → k2 l1 l2 B = some B' → Wq E H locs 2 ls []) {H : Heap} {locs : List Loc} {ls : Array Slot} {l1 : Int32} {l2 : Int32} {s0 : Int32} {s1 : Int32} {B : Blk} (hW : Wd V A H0 (jb M j B) (eS E) H locs) (hl : lv_has ls 4 [(0, .ref (vA V j 1)), (1, .int l1), (2, .int l2)]) (hF : FX4_measureFrom_26 k2 l1 l2 s0 s1 B = some B') : Wq E H locs 26 ls [.int s0, .int s1, .ref (vA V j 11)] := by
  unfold FX4_measureFrom_26 at hF
  obtain ⟨h19, B18, e20, hF⟩ := stb_some hF
  refine qb_iast Cx hW (ai_11 hj) h19 e20 dX4_measureFrom_26 (fun H locs hW => ?_)
  obtain ⟨x21, e22, hF⟩ := lt1_some hF
  refine q_iinc (k := 2) (v := x21) (lv' := [(2, .int x21), (0, .ref (vA V j 1)), (1, .int l1)]) Cx dX4_measureFrom_27 hl rfl e22.symm (by decide) rfl (fun ls hl => ?_)
  refine q_goto (tgt := 2) Cx dX4_measureFrom_30 (by decide) ?_
  exact hk2 hW (lv_sub hl [1, 2, 0] rfl) hF
def FX4_measureFrom_2s (k2 : Int32 → Int32 → Blk → Option Blk) (l1 : Int32) (l2 : Int32) (B : Blk) : Option Blk :=
  if ((B 1) 0) ≤ l2 then
    FX4_measureFrom_35 fu (0 : Int32) B
  else
    if l2 = l1 then
      FX4_measureFrom_26 k2 l1 l2 (0 : Int32) l2 B
    else
      FX4_measureFrom_26 k2 l1 l2 (-6 : Int32) l2 B
set_option maxRecDepth 100000 in
set_option maxHeartbeats 4000000 in
theorem wX4_measureFrom_2s {E : WE} {V : VT} {A : Nat → Prop} {H0 : Heap} {M : Mem} {j : Nat} (hj : j < 11) (Cx : CX E RX4 cX4_measureFrom 4 1 23) {B' : Blk} (hret : RetV E V A H0 cX4_measureFrom (jb M j B')) {k2 : Int32 → Int32 → Blk → Option Blk} (hk2 : ∀ {H : Heap} {locs : List Loc} {ls : Array Slot} {B : Blk} {l1 : Int32} {l2 : Int32}, Wd V A H0 (jb M j B) (eS E) H locs → lv_has ls 4 [(0, .ref (vA V j 1)), (1, .int l1), (2, .int l2)] → k2 l1 l2 B = some B' → Wq E H locs 2 ls []) {H : Heap} {locs : List Loc} {ls : Array Slot} {l1 : Int32} {l2 : Int32} {B : Blk} (hW : Wd V A H0 (jb M j B) (eS E) H locs) (hl : lv_has ls 4 [(0, .ref (vA V j 1)), (1, .int l1), (2, .int l2)]) (hF : FX4_measureFrom_2s k2 l1 l2 B = some B') : Wq E H locs 2 ls [] := by
  unfold FX4_measureFrom_2s at hF
  refine q_iload_n Cx dX4_measureFrom_2 rfl (lv_at hl 2 rfl) ?_
  refine q_aload_n Cx dX4_measureFrom_3 rfl (lv_at hl 0 rfl) ?_
  refine qb_get (v := .int ((B 1) 0)) Cx hW (oP hj) ic4 0 (by decide) rfl wd_44 dX4_measureFrom_4 ?_
  refine q_icmp_ge (tgt := 33) Cx dX4_measureFrom_7 (by decide) (fun c1 => ?_) (fun c1 => ?_)
  · have hF := (if_pos c1).symm.trans hF
    refine q_iconst (v := (0 : Int32)) Cx dX4_measureFrom_33 (by decide) ?_
    refine q_istore_n (lv' := [(2, .int (0 : Int32)), (0, .ref (vA V j 1)), (1, .int l1)]) Cx dX4_measureFrom_34 rfl hl (by decide) rfl (fun ls hl => ?_)
    exact wX4_measureFrom_35 hj Cx hret fu hW (lv_sub hl [1, 0] rfl) hF
  · have hF := (if_neg c1).symm.trans hF
    refine q_aload_n Cx dX4_measureFrom_10 rfl (lv_at hl 0 rfl) ?_
    refine q_get (v := .ref (vA V j 11)) Cx hW (oP hj) ic4 9 (by decide) rfl wd_60 dX4_measureFrom_11 ?_
    refine q_iload_n Cx dX4_measureFrom_14 rfl (lv_at hl 2 rfl) ?_
    refine q_iload_n Cx dX4_measureFrom_15 rfl (lv_at hl 2 rfl) ?_
    refine q_iload_n Cx dX4_measureFrom_16 rfl (lv_at hl 1 rfl) ?_
    refine q_icmp_ne (tgt := 24) Cx dX4_measureFrom_17 (by decide) (fun c17 => ?_) (fun c17 => ?_)
    · have hF := (if_neg c17).symm.trans hF
      refine q_bipush (v := (-6 : Int32)) Cx dX4_measureFrom_24 (by decide) ?_
      exact wX4_measureFrom_26 hj Cx hret hk2 hW (lv_sub hl [0, 1, 2] rfl) hF
    · have hF := (if_pos c17).symm.trans hF
      refine q_iconst (v := (0 : Int32)) Cx dX4_measureFrom_20 (by decide) ?_
      refine q_goto (tgt := 26) Cx dX4_measureFrom_21 (by decide) ?_
      exact wX4_measureFrom_26 hj Cx hret hk2 hW (lv_sub hl [0, 1, 2] rfl) hF
def FX4_measureFrom_2 : Nat → Int32 → Int32 → Blk → Option Blk
  | 0 => fun _ _ _ => none
  | n + 1 => FX4_measureFrom_2s (FX4_measureFrom_2 n)
set_option maxRecDepth 100000 in
theorem wX4_measureFrom_2 {E : WE} {V : VT} {A : Nat → Prop} {H0 : Heap} {M : Mem} {j : Nat} (hj : j < 11) (Cx : CX E RX4 cX4_measureFrom 4 1 23) {B' : Blk} (hret : RetV E V A H0 cX4_measureFrom (jb M j B')) : ∀ (n : Nat) {H : Heap} {locs : List Loc} {ls : Array Slot} {l1 : Int32} {l2 : Int32} {B : Blk}, Wd V A H0 (jb M j B) (eS E) H locs → lv_has ls 4 [(0, .ref (vA V j 1)), (1, .int l1), (2, .int l2)] → FX4_measureFrom_2 n l1 l2 B = some B' → Wq E H locs 2 ls [] := by
  intro n
  induction n with
  | zero => intro _ _ _ _ _ _ hW hl hF; cases hF
  | succ n ih => intro _ _ _ _ _ _ hW hl hF; exact wX4_measureFrom_2s hj Cx hret ih hW hl hF
def FX4_measureFrom (B : Blk) (l1 : Int32) : Option Blk :=
  FX4_measureFrom_2 fu l1 (0 : Int32) B
set_option maxRecDepth 100000 in
set_option maxHeartbeats 4000000 in
theorem wX4_measureFrom {E : WE} {V : VT} {A : Nat → Prop} {H0 : Heap} {M : Mem} {j : Nat} (hj : j < 11) (Cx : CX E RX4 cX4_measureFrom 4 1 23) {B' : Blk} (hret : RetV E V A H0 cX4_measureFrom (jb M j B')) {H : Heap} {locs : List Loc} {ls : Array Slot} {l1 : Int32} {B : Blk} (hW : Wd V A H0 (jb M j B) (eS E) H locs) (hl : lv_has ls 4 [(0, .ref (vA V j 1)), (1, .int l1)]) (hF : FX4_measureFrom B l1 = some B') : Wq E H locs 0 ls [] := by
  unfold FX4_measureFrom at hF
  refine q_iconst (v := (0 : Int32)) Cx dX4_measureFrom_0 (by decide) ?_
  refine q_istore_n (lv' := [(2, .int (0 : Int32)), (0, .ref (vA V j 1)), (1, .int l1)]) Cx dX4_measureFrom_1 rfl hl (by decide) rfl (fun ls hl => ?_)
  exact wX4_measureFrom_2 hj Cx hret fu hW (lv_sub hl [1, 2, 0] rfl) hF
set_option maxRecDepth 100000 in
theorem kX4_measureFrom {l : Launch} {V : VT} {M : Mem} {j : Nat} (hj : j < 11) {B : Blk} {l1 : Int32} {B' : Blk} (hF : FX4_measureFrom B l1 = some B') : MetV l V yX4_measureFrom cX4_measureFrom 4 ({ frames := 1, cells := 0, slots := 0, locals := 23 } : Room) [.ref (vA V j 1), .int l1] (jb M j B) (jb M j B') := metV_of (by decide) (Nat.le_of_ble_eq_true rfl) (fun E H0 _ Cx hret H locs ls hW hl => wX4_measureFrom hj Cx hret hW hl hF)
theorem dX4_startOf_0 : decode cX4_startOf 0 = .ok (.aload_n 0, 1) := by decide +kernel
theorem dX4_startOf_1 : decode cX4_startOf 1 = .ok (.getfield 21, 3) := by decide +kernel
theorem dX4_startOf_4 : decode cX4_startOf 4 = .ok (.iload_n 1, 1) := by decide +kernel
theorem dX4_startOf_5 : decode cX4_startOf 5 = .ok (.iaload, 1) := by decide +kernel
theorem dX4_startOf_6 : decode cX4_startOf 6 = .ok (.aload_n 0, 1) := by decide +kernel
theorem dX4_startOf_7 : decode cX4_startOf 7 = .ok (.getfield 15, 3) := by decide +kernel
theorem dX4_startOf_10 : decode cX4_startOf 10 = .ok (.iload_n 1, 1) := by decide +kernel
theorem dX4_startOf_11 : decode cX4_startOf 11 = .ok (.iaload, 1) := by decide +kernel
theorem dX4_startOf_12 : decode cX4_startOf 12 = .ok (.isub, 1) := by decide +kernel
theorem dX4_startOf_13 : decode cX4_startOf 13 = .ok (.ireturn, 1) := by decide +kernel
theorem okX4_startOf : CalOK yX4_startOf cX4_startOf 2 (some .int) 1 := ⟨wd_18, wd_288, by decide +kernel⟩
theorem ovX4_startOf : VirOK yX4_startOf := ⟨wd_286, wd_287⟩
def FX4_startOf (B : Blk) (l1 : Int32) : Option Int32 :=
  ld (B 6) 24 l1 fun v1 =>
  ld (B 4) 24 l1 fun v4 =>
  some (v1 - v4)
set_option maxRecDepth 100000 in
set_option maxHeartbeats 4000000 in
theorem wX4_startOf {E : WE} {V : VT} {A : Nat → Prop} {H0 : Heap} {M : Mem} {j : Nat} (hj : j < 11) (Cx : CX E RX4 cX4_startOf 2 0 0) {r : Int32} {B : Blk} (hret : RetI E V A H0 cX4_startOf .int r (jb M j B)) {H : Heap} {locs : List Loc} {ls : Array Slot} {l1 : Int32} (hW : Wd V A H0 (jb M j B) (eS E) H locs) (hl : lv_has ls 2 [(0, .ref (vA V j 1)), (1, .int l1)]) (hF : FX4_startOf B l1 = some r) : Wq E H locs 0 ls [] := by
  unfold FX4_startOf at hF
  refine q_aload_n Cx dX4_startOf_0 rfl (lv_at hl 0 rfl) ?_
  refine q_get (v := .ref (vA V j 6)) Cx hW (oP hj) ic4 4 (by decide) rfl wd_52 dX4_startOf_1 ?_
  refine q_iload_n Cx dX4_startOf_4 rfl (lv_at hl 1 rfl) ?_
  obtain ⟨h2, v1, e3, hF⟩ := ld_some hF
  refine qb_iald Cx hW (ai_6 hj) h2 e3 dX4_startOf_5 ?_
  refine q_aload_n Cx dX4_startOf_6 rfl (lv_at hl 0 rfl) ?_
  refine q_get (v := .ref (vA V j 4)) Cx hW (oP hj) ic4 2 (by decide) rfl wd_48 dX4_startOf_7 ?_
  refine q_iload_n Cx dX4_startOf_10 rfl (lv_at hl 1 rfl) ?_
  obtain ⟨h5, v4, e6, hF⟩ := ld_some hF
  refine qb_iald Cx hW (ai_4 hj) h5 e6 dX4_startOf_11 ?_
  refine q_isub Cx dX4_startOf_12 ?_
  obtain rfl := Option.some.inj hF
  exact hret _ _ _ _ dX4_startOf_13 (nI32 _) hW
set_option maxRecDepth 100000 in
theorem kX4_startOf {l : Launch} {V : VT} {M : Mem} {j : Nat} (hj : j < 11) {B : Blk} {l1 : Int32} {r : Int32} (hF : FX4_startOf B l1 = some r) : MetI l V yX4_startOf cX4_startOf 2 .int ({ frames := 0, cells := 0, slots := 0, locals := 0 } : Room) [.ref (vA V j 1), .int l1] r (jb M j B) (jb M j B) := metI_of (by decide) (Nat.le_of_ble_eq_true rfl) (fun E H0 _ Cx hret H locs ls hW hl => wX4_startOf hj Cx hret hW hl hF)
theorem dX4_inFrontOf_0 : decode cX4_inFrontOf 0 = .ok (.aload_n 0, 1) := by decide +kernel
theorem dX4_inFrontOf_1 : decode cX4_inFrontOf 1 = .ok (.aload_n 0, 1) := by decide +kernel
theorem dX4_inFrontOf_2 : decode cX4_inFrontOf 2 = .ok (.getfield 9, 3) := by decide +kernel
theorem dX4_inFrontOf_5 : decode cX4_inFrontOf 5 = .ok (.iload_n 1, 1) := by decide +kernel
theorem dX4_inFrontOf_6 : decode cX4_inFrontOf 6 = .ok (.iaload, 1) := by decide +kernel
theorem dX4_inFrontOf_7 : decode cX4_inFrontOf 7 = .ok (.aload_n 0, 1) := by decide +kernel
theorem dX4_inFrontOf_8 : decode cX4_inFrontOf 8 = .ok (.iload_n 1, 1) := by decide +kernel
theorem dX4_inFrontOf_9 : decode cX4_inFrontOf 9 = .ok (.invokevirtual 53, 3) := by decide +kernel
theorem dX4_inFrontOf_12 : decode cX4_inFrontOf 12 = .ok (.iconst 1, 1) := by decide +kernel
theorem dX4_inFrontOf_13 : decode cX4_inFrontOf 13 = .ok (.isub, 1) := by decide +kernel
theorem dX4_inFrontOf_14 : decode cX4_inFrontOf 14 = .ok (.invokevirtual 49, 3) := by decide +kernel
theorem dX4_inFrontOf_17 : decode cX4_inFrontOf 17 = .ok (.ireturn, 1) := by decide +kernel
theorem okX4_inFrontOf : CalOK yX4_inFrontOf cX4_inFrontOf 2 (some .int) 1 := ⟨wd_18, wd_310, by decide +kernel⟩
theorem ovX4_inFrontOf : VirOK yX4_inFrontOf := ⟨wd_308, wd_309⟩
def FX4_inFrontOf (B : Blk) (l1 : Int32) : Option Int32 :=
  ld (B 3) 24 l1 fun v1 =>
  c1 (FX4_placeOf B l1) fun r4 =>
  c1 (FX4_inRow B v1 (r4 - (1 : Int32))) fun r6 =>
  some r6
set_option maxRecDepth 100000 in
set_option maxHeartbeats 4000000 in
theorem wX4_inFrontOf {E : WE} {V : VT} {A : Nat → Prop} {H0 : Heap} {M : Mem} {j : Nat} (hj : j < 11) (Cx : CX E RX4 cX4_inFrontOf 2 2 45) {r : Int32} {B : Blk} (hret : RetI E V A H0 cX4_inFrontOf .int r (jb M j B)) {H : Heap} {locs : List Loc} {ls : Array Slot} {l1 : Int32} (hW : Wd V A H0 (jb M j B) (eS E) H locs) (hl : lv_has ls 2 [(0, .ref (vA V j 1)), (1, .int l1)]) (hF : FX4_inFrontOf B l1 = some r) : Wq E H locs 0 ls [] := by
  unfold FX4_inFrontOf at hF
  refine q_aload_n Cx dX4_inFrontOf_0 rfl (lv_at hl 0 rfl) ?_
  refine q_aload_n Cx dX4_inFrontOf_1 rfl (lv_at hl 0 rfl) ?_
  refine q_get (v := .ref (vA V j 3)) Cx hW (oP hj) ic4 1 (by decide) rfl wd_46 dX4_inFrontOf_2 ?_
  refine q_iload_n Cx dX4_inFrontOf_5 rfl (lv_at hl 1 rfl) ?_
  obtain ⟨h2, v1, e3, hF⟩ := ld_some hF
  refine qb_iald Cx hW (ai_3 hj) h2 e3 dX4_inFrontOf_6 ?_
  refine q_aload_n Cx dX4_inFrontOf_7 rfl (lv_at hl 0 rfl) ?_
  refine q_iload_n Cx dX4_inFrontOf_8 rfl (lv_at hl 1 rfl) ?_
  obtain ⟨r4, e5, hF⟩ := c1_some hF
  refine q_callI (as := [.int l1]) (rest := [.int v1, .ref (vA V j 1)]) Cx (kX4_placeOf hj e5) okX4_placeOf ovX4_placeOf wd_311 ⟨rfl, rfl, by decide, by decide⟩ hW (oP hj) ic4 rfl hl.1 (Nat.le_of_ble_eq_true rfl) rfl dX4_inFrontOf_9 (fun H locs hW => ?_)
  refine q_iconst (v := (1 : Int32)) Cx dX4_inFrontOf_12 (by decide) ?_
  refine q_isub Cx dX4_inFrontOf_13 ?_
  obtain ⟨r6, e7, hF⟩ := c1_some hF
  refine q_callI (as := [.int v1, .int (r4 - (1 : Int32))]) (rest := []) Cx (kX4_inRow hj e7) okX4_inRow ovX4_inRow wd_261 ⟨rfl, rfl, by decide, by decide⟩ hW (oP hj) ic4 rfl hl.1 (Nat.le_of_ble_eq_true rfl) rfl dX4_inFrontOf_14 (fun H locs hW => ?_)
  obtain rfl := Option.some.inj hF
  exact hret _ _ _ _ dX4_inFrontOf_17 (nI32 _) hW
set_option maxRecDepth 100000 in
theorem kX4_inFrontOf {l : Launch} {V : VT} {M : Mem} {j : Nat} (hj : j < 11) {B : Blk} {l1 : Int32} {r : Int32} (hF : FX4_inFrontOf B l1 = some r) : MetI l V yX4_inFrontOf cX4_inFrontOf 2 .int ({ frames := 2, cells := 0, slots := 0, locals := 45 } : Room) [.ref (vA V j 1), .int l1] r (jb M j B) (jb M j B) := metI_of (by decide) (Nat.le_of_ble_eq_true rfl) (fun E H0 _ Cx hret H locs ls hW hl => wX4_inFrontOf hj Cx hret hW hl hF)
theorem dX4_followersOf_0 : decode cX4_followersOf 0 = .ok (.aload_n 0, 1) := by decide +kernel
theorem dX4_followersOf_1 : decode cX4_followersOf 1 = .ok (.aload_n 0, 1) := by decide +kernel
theorem dX4_followersOf_2 : decode cX4_followersOf 2 = .ok (.getfield 9, 3) := by decide +kernel
theorem dX4_followersOf_5 : decode cX4_followersOf 5 = .ok (.iload_n 1, 1) := by decide +kernel
theorem dX4_followersOf_6 : decode cX4_followersOf 6 = .ok (.iaload, 1) := by decide +kernel
theorem dX4_followersOf_7 : decode cX4_followersOf 7 = .ok (.aload_n 0, 1) := by decide +kernel
theorem dX4_followersOf_8 : decode cX4_followersOf 8 = .ok (.iload_n 1, 1) := by decide +kernel
theorem dX4_followersOf_9 : decode cX4_followersOf 9 = .ok (.invokevirtual 53, 3) := by decide +kernel
theorem dX4_followersOf_12 : decode cX4_followersOf 12 = .ok (.iconst 1, 1) := by decide +kernel
theorem dX4_followersOf_13 : decode cX4_followersOf 13 = .ok (.iadd, 1) := by decide +kernel
theorem dX4_followersOf_14 : decode cX4_followersOf 14 = .ok (.invokevirtual 49, 3) := by decide +kernel
theorem dX4_followersOf_17 : decode cX4_followersOf 17 = .ok (.istore_n 2, 1) := by decide +kernel
theorem dX4_followersOf_18 : decode cX4_followersOf 18 = .ok (.aload_n 0, 1) := by decide +kernel
theorem dX4_followersOf_19 : decode cX4_followersOf 19 = .ok (.iload_n 2, 1) := by decide +kernel
theorem dX4_followersOf_20 : decode cX4_followersOf 20 = .ok (.invokevirtual 68, 3) := by decide +kernel
theorem dX4_followersOf_23 : decode cX4_followersOf 23 = .ok (.ifCond .eq 9, 3) := by decide +kernel
theorem dX4_followersOf_26 : decode cX4_followersOf 26 = .ok (.iconst 1, 1) := by decide +kernel
theorem dX4_followersOf_27 : decode cX4_followersOf 27 = .ok (.iload_n 2, 1) := by decide +kernel
theorem dX4_followersOf_28 : decode cX4_followersOf 28 = .ok (.ishl, 1) := by decide +kernel
theorem dX4_followersOf_29 : decode cX4_followersOf 29 = .ok (.goto 4, 3) := by decide +kernel
theorem dX4_followersOf_32 : decode cX4_followersOf 32 = .ok (.iconst 0, 1) := by decide +kernel
theorem dX4_followersOf_33 : decode cX4_followersOf 33 = .ok (.istore_n 3, 1) := by decide +kernel
theorem dX4_followersOf_34 : decode cX4_followersOf 34 = .ok (.iconst 0, 1) := by decide +kernel
theorem dX4_followersOf_35 : decode cX4_followersOf 35 = .ok (.istore 4, 2) := by decide +kernel
theorem dX4_followersOf_37 : decode cX4_followersOf 37 = .ok (.iload 4, 2) := by decide +kernel
theorem dX4_followersOf_39 : decode cX4_followersOf 39 = .ok (.aload_n 0, 1) := by decide +kernel
theorem dX4_followersOf_40 : decode cX4_followersOf 40 = .ok (.getfield 39, 3) := by decide +kernel
theorem dX4_followersOf_43 : decode cX4_followersOf 43 = .ok (.if_icmp .ge 27, 3) := by decide +kernel
theorem dX4_followersOf_46 : decode cX4_followersOf 46 = .ok (.aload_n 0, 1) := by decide +kernel
theorem dX4_followersOf_47 : decode cX4_followersOf 47 = .ok (.getfield 18, 3) := by decide +kernel
theorem dX4_followersOf_50 : decode cX4_followersOf 50 = .ok (.iload 4, 2) := by decide +kernel
theorem dX4_followersOf_52 : decode cX4_followersOf 52 = .ok (.iaload, 1) := by decide +kernel
theorem dX4_followersOf_53 : decode cX4_followersOf 53 = .ok (.iload_n 1, 1) := by decide +kernel
theorem dX4_followersOf_54 : decode cX4_followersOf 54 = .ok (.if_icmp .ne 10, 3) := by decide +kernel
theorem dX4_followersOf_57 : decode cX4_followersOf 57 = .ok (.iload_n 3, 1) := by decide +kernel
theorem dX4_followersOf_58 : decode cX4_followersOf 58 = .ok (.iconst 1, 1) := by decide +kernel
theorem dX4_followersOf_59 : decode cX4_followersOf 59 = .ok (.iload 4, 2) := by decide +kernel
theorem dX4_followersOf_61 : decode cX4_followersOf 61 = .ok (.ishl, 1) := by decide +kernel
theorem dX4_followersOf_62 : decode cX4_followersOf 62 = .ok (.ior, 1) := by decide +kernel
theorem dX4_followersOf_63 : decode cX4_followersOf 63 = .ok (.istore_n 3, 1) := by decide +kernel
theorem dX4_followersOf_64 : decode cX4_followersOf 64 = .ok (.iinc 4 1, 3) := by decide +kernel
theorem dX4_followersOf_67 : decode cX4_followersOf 67 = .ok (.goto (-30), 3) := by decide +kernel
theorem dX4_followersOf_70 : decode cX4_followersOf 70 = .ok (.iload_n 3, 1) := by decide +kernel
theorem dX4_followersOf_71 : decode cX4_followersOf 71 = .ok (.ireturn, 1) := by decide +kernel
theorem okX4_followersOf : CalOK yX4_followersOf cX4_followersOf 5 (some .int) 1 := ⟨wd_18, wd_330, by decide +kernel⟩
theorem ovX4_followersOf : VirOK yX4_followersOf := ⟨wd_328, wd_329⟩
def FX4_followersOf_37s (B : Blk) (k37 : Int32 → Int32 → Int32 → Option Int32) (l1 : Int32) (l3 : Int32) (l4 : Int32) : Option Int32 :=
  if ((B 1) 0) ≤ l4 then
    some l3
  else
    ld (B 5) 24 l4 fun v12 =>
    if v12 = l1 then
      lt1 (l3 ||| ((1 : Int32) <<< (l4 &&& 31))) fun x18 =>
      lt1 (l4 + (1 : Int32)) fun x20 =>
      k37 l1 x18 x20
    else
      lt1 (l4 + (1 : Int32)) fun x16 =>
      k37 l1 l3 x16
set_option maxRecDepth 100000 in
set_option maxHeartbeats 4000000 in
theorem wX4_followersOf_37s {E : WE} {V : VT} {A : Nat → Prop} {H0 : Heap} {M : Mem} {j : Nat} (hj : j < 11) (Cx : CX E RX4 cX4_followersOf 5 2 45) {r : Int32} {B : Blk} (hret : RetI E V A H0 cX4_followersOf .int r (jb M j B)) {k37 : Int32 → Int32 → Int32 → Option Int32} (hk37 : ∀ {H : Heap} {locs : List Loc} {ls : Array Slot} {l1 : Int32} {l3 : Int32} {l4 : Int32}, Wd V A H0 (jb M j B) (eS E) H locs → lv_has ls 5 [(0, .ref (vA V j 1)), (1, .int l1), (3, .int l3), (4, .int l4)] → k37 l1 l3 l4 = some r → Wq E H locs 37 ls []) {H : Heap} {locs : List Loc} {ls : Array Slot} {l1 : Int32} {l3 : Int32} {l4 : Int32} (hW : Wd V A H0 (jb M j B) (eS E) H locs) (hl : lv_has ls 5 [(0, .ref (vA V j 1)), (1, .int l1), (3, .int l3), (4, .int l4)]) (hF : FX4_followersOf_37s B k37 l1 l3 l4 = some r) : Wq E H locs 37 ls [] := by
  unfold FX4_followersOf_37s at hF
  refine q_iload Cx dX4_followersOf_37 (lv_at hl 3 rfl) ?_
  refine q_aload_n Cx dX4_followersOf_39 rfl (lv_at hl 0 rfl) ?_
  refine qb_get (v := .int ((B 1) 0)) Cx hW (oP hj) ic4 0 (by decide) rfl wd_44 dX4_followersOf_40 ?_
  refine q_icmp_ge (tgt := 70) Cx dX4_followersOf_43 (by decide) (fun c11 => ?_) (fun c11 => ?_)
  · have hF := (if_pos c11).symm.trans hF
    refine q_iload_n Cx dX4_followersOf_70 rfl (lv_at hl 2 rfl) ?_
    obtain rfl := Option.some.inj hF
    exact hret _ _ _ _ dX4_followersOf_71 (nI32 _) hW
  · have hF := (if_neg c11).symm.trans hF
    refine q_aload_n Cx dX4_followersOf_46 rfl (lv_at hl 0 rfl) ?_
    refine q_get (v := .ref (vA V j 5)) Cx hW (oP hj) ic4 3 (by decide) rfl wd_50 dX4_followersOf_47 ?_
    refine q_iload Cx dX4_followersOf_50 (lv_at hl 3 rfl) ?_
    obtain ⟨h13, v12, e14, hF⟩ := ld_some hF
    refine qb_iald Cx hW (ai_5 hj) h13 e14 dX4_followersOf_52 ?_
    refine q_iload_n Cx dX4_followersOf_53 rfl (lv_at hl 1 rfl) ?_
    refine q_icmp_ne (tgt := 64) Cx dX4_followersOf_54 (by decide) (fun c15 => ?_) (fun c15 => ?_)
    · have hF := (if_neg c15).symm.trans hF
      obtain ⟨x16, e17, hF⟩ := lt1_some hF
      refine q_iinc (k := 3) (v := x16) (lv' := [(4, .int x16), (0, .ref (vA V j 1)), (1, .int l1), (3, .int l3)]) Cx dX4_followersOf_64 hl rfl e17.symm (by decide) rfl (fun ls hl => ?_)
      refine q_goto (tgt := 37) Cx dX4_followersOf_67 (by decide) ?_
      exact hk37 hW (lv_sub hl [1, 2, 3, 0] rfl) hF
    · have hF := (if_pos c15).symm.trans hF
      refine q_iload_n Cx dX4_followersOf_57 rfl (lv_at hl 2 rfl) ?_
      refine q_iconst (v := (1 : Int32)) Cx dX4_followersOf_58 (by decide) ?_
      refine q_iload Cx dX4_followersOf_59 (lv_at hl 3 rfl) ?_
      refine q_ishl Cx dX4_followersOf_61 ?_
      refine q_ior Cx dX4_followersOf_62 ?_
      obtain ⟨x18, e19, hF⟩ := lt1_some hF
      refine q_topi e19 ?_
      refine q_istore_n (lv' := [(3, .int x18), (0, .ref (vA V j 1)), (1, .int l1), (4, .int l4)]) Cx dX4_followersOf_63 rfl hl (by decide) rfl (fun ls hl => ?_)
      obtain ⟨x20, e21, hF⟩ := lt1_some hF
      refine q_iinc (k := 3) (v := x20) (lv' := [(4, .int x20), (3, .int x18), (0, .ref (vA V j 1)), (1, .int l1)]) Cx dX4_followersOf_64 hl rfl e21.symm (by decide) rfl (fun ls hl => ?_)
      refine q_goto (tgt := 37) Cx dX4_followersOf_67 (by decide) ?_
      exact hk37 hW (lv_sub hl [2, 3, 1, 0] rfl) hF
def FX4_followersOf_37 (B : Blk) : Nat → Int32 → Int32 → Int32 → Option Int32
  | 0 => fun _ _ _ => none
  | n + 1 => FX4_followersOf_37s B (FX4_followersOf_37 B n)
set_option maxRecDepth 100000 in
theorem wX4_followersOf_37 {E : WE} {V : VT} {A : Nat → Prop} {H0 : Heap} {M : Mem} {j : Nat} (hj : j < 11) (Cx : CX E RX4 cX4_followersOf 5 2 45) {r : Int32} {B : Blk} (hret : RetI E V A H0 cX4_followersOf .int r (jb M j B)) : ∀ (n : Nat) {H : Heap} {locs : List Loc} {ls : Array Slot} {l1 : Int32} {l3 : Int32} {l4 : Int32}, Wd V A H0 (jb M j B) (eS E) H locs → lv_has ls 5 [(0, .ref (vA V j 1)), (1, .int l1), (3, .int l3), (4, .int l4)] → FX4_followersOf_37 B n l1 l3 l4 = some r → Wq E H locs 37 ls [] := by
  intro n
  induction n with
  | zero => intro _ _ _ _ _ _ hW hl hF; cases hF
  | succ n ih => intro _ _ _ _ _ _ hW hl hF; exact wX4_followersOf_37s hj Cx hret ih hW hl hF
def FX4_followersOf (B : Blk) (l1 : Int32) : Option Int32 :=
  ld (B 3) 24 l1 fun v1 =>
  c1 (FX4_placeOf B l1) fun r4 =>
  c1 (FX4_inRow B v1 (r4 + (1 : Int32))) fun r6 =>
  c1 (FX4_has B r6) fun r8 =>
  if r8 = 0 then
    FX4_followersOf_37 B fu l1 (0 : Int32) (0 : Int32)
  else
    lt1 ((1 : Int32) <<< (r6 &&& 31)) fun x22 =>
    FX4_followersOf_37 B fu l1 x22 (0 : Int32)
set_option maxRecDepth 100000 in
set_option maxHeartbeats 4000000 in
theorem wX4_followersOf {E : WE} {V : VT} {A : Nat → Prop} {H0 : Heap} {M : Mem} {j : Nat} (hj : j < 11) (Cx : CX E RX4 cX4_followersOf 5 2 45) {r : Int32} {B : Blk} (hret : RetI E V A H0 cX4_followersOf .int r (jb M j B)) {H : Heap} {locs : List Loc} {ls : Array Slot} {l1 : Int32} (hW : Wd V A H0 (jb M j B) (eS E) H locs) (hl : lv_has ls 5 [(0, .ref (vA V j 1)), (1, .int l1)]) (hF : FX4_followersOf B l1 = some r) : Wq E H locs 0 ls [] := by
  unfold FX4_followersOf at hF
  refine q_aload_n Cx dX4_followersOf_0 rfl (lv_at hl 0 rfl) ?_
  refine q_aload_n Cx dX4_followersOf_1 rfl (lv_at hl 0 rfl) ?_
  refine q_get (v := .ref (vA V j 3)) Cx hW (oP hj) ic4 1 (by decide) rfl wd_46 dX4_followersOf_2 ?_
  refine q_iload_n Cx dX4_followersOf_5 rfl (lv_at hl 1 rfl) ?_
  obtain ⟨h2, v1, e3, hF⟩ := ld_some hF
  refine qb_iald Cx hW (ai_3 hj) h2 e3 dX4_followersOf_6 ?_
  refine q_aload_n Cx dX4_followersOf_7 rfl (lv_at hl 0 rfl) ?_
  refine q_iload_n Cx dX4_followersOf_8 rfl (lv_at hl 1 rfl) ?_
  obtain ⟨r4, e5, hF⟩ := c1_some hF
  refine q_callI (as := [.int l1]) (rest := [.int v1, .ref (vA V j 1)]) Cx (kX4_placeOf hj e5) okX4_placeOf ovX4_placeOf wd_311 ⟨rfl, rfl, by decide, by decide⟩ hW (oP hj) ic4 rfl hl.1 (Nat.le_of_ble_eq_true rfl) rfl dX4_followersOf_9 (fun H locs hW => ?_)
  refine q_iconst (v := (1 : Int32)) Cx dX4_followersOf_12 (by decide) ?_
  refine q_iadd Cx dX4_followersOf_13 ?_
  obtain ⟨r6, e7, hF⟩ := c1_some hF
  refine q_callI (as := [.int v1, .int (r4 + (1 : Int32))]) (rest := []) Cx (kX4_inRow hj e7) okX4_inRow ovX4_inRow wd_261 ⟨rfl, rfl, by decide, by decide⟩ hW (oP hj) ic4 rfl hl.1 (Nat.le_of_ble_eq_true rfl) rfl dX4_followersOf_14 (fun H locs hW => ?_)
  refine q_istore_n (lv' := [(2, .int r6), (0, .ref (vA V j 1)), (1, .int l1)]) Cx dX4_followersOf_17 rfl hl (by decide) rfl (fun ls hl => ?_)
  refine q_aload_n Cx dX4_followersOf_18 rfl (lv_at hl 1 rfl) ?_
  refine q_iload_n Cx dX4_followersOf_19 rfl (lv_at hl 0 rfl) ?_
  obtain ⟨r8, e9, hF⟩ := c1_some hF
  refine q_callI (as := [.int r6]) (rest := []) Cx (kX4_has hj e9) okX4_has ovX4_has wd_269 ⟨rfl, rfl, by decide, by decide⟩ hW (oP hj) ic4 rfl hl.1 (Nat.le_of_ble_eq_true rfl) rfl dX4_followersOf_20 (fun H locs hW => ?_)
  refine q_if_eq (tgt := 32) Cx dX4_followersOf_23 (by decide) (fun c10 => ?_) (fun c10 => ?_)
  · have hF := (if_pos c10).symm.trans hF
    refine q_iconst (v := (0 : Int32)) Cx dX4_followersOf_32 (by decide) ?_
    refine q_istore_n (lv' := [(3, .int (0 : Int32)), (2, .int r6), (0, .ref (vA V j 1)), (1, .int l1)]) Cx dX4_followersOf_33 rfl hl (by decide) rfl (fun ls hl => ?_)
    refine q_iconst (v := (0 : Int32)) Cx dX4_followersOf_34 (by decide) ?_
    refine q_istore (lv' := [(4, .int (0 : Int32)), (3, .int (0 : Int32)), (2, .int r6), (0, .ref (vA V j 1)), (1, .int l1)]) Cx dX4_followersOf_35 hl (by decide) rfl (fun ls hl => ?_)
    exact wX4_followersOf_37 hj Cx hret fu hW (lv_sub hl [3, 4, 1, 0] rfl) hF
  · have hF := (if_neg c10).symm.trans hF
    refine q_iconst (v := (1 : Int32)) Cx dX4_followersOf_26 (by decide) ?_
    refine q_iload_n Cx dX4_followersOf_27 rfl (lv_at hl 0 rfl) ?_
    refine q_ishl Cx dX4_followersOf_28 ?_
    refine q_goto (tgt := 33) Cx dX4_followersOf_29 (by decide) ?_
    obtain ⟨x22, e23, hF⟩ := lt1_some hF
    refine q_topi e23 ?_
    refine q_istore_n (lv' := [(3, .int x22), (2, .int r6), (0, .ref (vA V j 1)), (1, .int l1)]) Cx dX4_followersOf_33 rfl hl (by decide) rfl (fun ls hl => ?_)
    refine q_iconst (v := (0 : Int32)) Cx dX4_followersOf_34 (by decide) ?_
    refine q_istore (lv' := [(4, .int (0 : Int32)), (3, .int x22), (2, .int r6), (0, .ref (vA V j 1)), (1, .int l1)]) Cx dX4_followersOf_35 hl (by decide) rfl (fun ls hl => ?_)
    exact wX4_followersOf_37 hj Cx hret fu hW (lv_sub hl [3, 4, 1, 0] rfl) hF
set_option maxRecDepth 100000 in
theorem kX4_followersOf {l : Launch} {V : VT} {M : Mem} {j : Nat} (hj : j < 11) {B : Blk} {l1 : Int32} {r : Int32} (hF : FX4_followersOf B l1 = some r) : MetI l V yX4_followersOf cX4_followersOf 5 .int ({ frames := 2, cells := 0, slots := 0, locals := 45 } : Room) [.ref (vA V j 1), .int l1] r (jb M j B) (jb M j B) := metI_of (by decide) (Nat.le_of_ble_eq_true rfl) (fun E H0 _ Cx hret H locs ls hW hl => wX4_followersOf hj Cx hret hW hl hF)
theorem dX4_endOfAll_0 : decode cX4_endOfAll 0 = .ok (.iconst 0, 1) := by decide +kernel
theorem dX4_endOfAll_1 : decode cX4_endOfAll 1 = .ok (.istore_n 1, 1) := by decide +kernel
theorem dX4_endOfAll_2 : decode cX4_endOfAll 2 = .ok (.iconst 0, 1) := by decide +kernel
theorem dX4_endOfAll_3 : decode cX4_endOfAll 3 = .ok (.istore_n 2, 1) := by decide +kernel
theorem dX4_endOfAll_4 : decode cX4_endOfAll 4 = .ok (.iload_n 2, 1) := by decide +kernel
theorem dX4_endOfAll_5 : decode cX4_endOfAll 5 = .ok (.aload_n 0, 1) := by decide +kernel
theorem dX4_endOfAll_6 : decode cX4_endOfAll 6 = .ok (.getfield 39, 3) := by decide +kernel
theorem dX4_endOfAll_9 : decode cX4_endOfAll 9 = .ok (.if_icmp .ge 20, 3) := by decide +kernel
theorem dX4_endOfAll_12 : decode cX4_endOfAll 12 = .ok (.iload_n 1, 1) := by decide +kernel
theorem dX4_endOfAll_13 : decode cX4_endOfAll 13 = .ok (.aload_n 0, 1) := by decide +kernel
theorem dX4_endOfAll_14 : decode cX4_endOfAll 14 = .ok (.getfield 21, 3) := by decide +kernel
theorem dX4_endOfAll_17 : decode cX4_endOfAll 17 = .ok (.iload_n 2, 1) := by decide +kernel
theorem dX4_endOfAll_18 : decode cX4_endOfAll 18 = .ok (.iaload, 1) := by decide +kernel
theorem dX4_endOfAll_19 : decode cX4_endOfAll 19 = .ok (.invokestatic 57, 3) := by decide +kernel
theorem dX4_endOfAll_22 : decode cX4_endOfAll 22 = .ok (.istore_n 1, 1) := by decide +kernel
theorem dX4_endOfAll_23 : decode cX4_endOfAll 23 = .ok (.iinc 2 1, 3) := by decide +kernel
theorem dX4_endOfAll_26 : decode cX4_endOfAll 26 = .ok (.goto (-22), 3) := by decide +kernel
theorem dX4_endOfAll_29 : decode cX4_endOfAll 29 = .ok (.iload_n 1, 1) := by decide +kernel
theorem dX4_endOfAll_30 : decode cX4_endOfAll 30 = .ok (.ireturn, 1) := by decide +kernel
theorem okX4_endOfAll : CalOK yX4_endOfAll cX4_endOfAll 3 (some .int) 0 := ⟨wd_18, wd_349, by decide +kernel⟩
theorem ovX4_endOfAll : VirOK yX4_endOfAll := ⟨wd_347, wd_348⟩
def FX4_endOfAll_4s (B : Blk) (k4 : Int32 → Int32 → Option Int32) (l1 : Int32) (l2 : Int32) : Option Int32 :=
  if ((B 1) 0) ≤ l2 then
    some l1
  else
    ld (B 6) 24 l2 fun v2 =>
    lt1 (if l1 < v2 then v2 else l1) fun x5 =>
    lt1 (l2 + (1 : Int32)) fun x7 =>
    k4 x5 x7
set_option maxRecDepth 100000 in
set_option maxHeartbeats 4000000 in
theorem wX4_endOfAll_4s {E : WE} {V : VT} {A : Nat → Prop} {H0 : Heap} {M : Mem} {j : Nat} (hj : j < 11) (Cx : CX E RX4 cX4_endOfAll 3 1 40) {r : Int32} {B : Blk} (hret : RetI E V A H0 cX4_endOfAll .int r (jb M j B)) {k4 : Int32 → Int32 → Option Int32} (hk4 : ∀ {H : Heap} {locs : List Loc} {ls : Array Slot} {l1 : Int32} {l2 : Int32}, Wd V A H0 (jb M j B) (eS E) H locs → lv_has ls 3 [(0, .ref (vA V j 1)), (1, .int l1), (2, .int l2)] → k4 l1 l2 = some r → Wq E H locs 4 ls []) {H : Heap} {locs : List Loc} {ls : Array Slot} {l1 : Int32} {l2 : Int32} (hW : Wd V A H0 (jb M j B) (eS E) H locs) (hl : lv_has ls 3 [(0, .ref (vA V j 1)), (1, .int l1), (2, .int l2)]) (hF : FX4_endOfAll_4s B k4 l1 l2 = some r) : Wq E H locs 4 ls [] := by
  unfold FX4_endOfAll_4s at hF
  refine q_iload_n Cx dX4_endOfAll_4 rfl (lv_at hl 2 rfl) ?_
  refine q_aload_n Cx dX4_endOfAll_5 rfl (lv_at hl 0 rfl) ?_
  refine qb_get (v := .int ((B 1) 0)) Cx hW (oP hj) ic4 0 (by decide) rfl wd_44 dX4_endOfAll_6 ?_
  refine q_icmp_ge (tgt := 29) Cx dX4_endOfAll_9 (by decide) (fun c1 => ?_) (fun c1 => ?_)
  · have hF := (if_pos c1).symm.trans hF
    refine q_iload_n Cx dX4_endOfAll_29 rfl (lv_at hl 1 rfl) ?_
    obtain rfl := Option.some.inj hF
    exact hret _ _ _ _ dX4_endOfAll_30 (nI32 _) hW
  · have hF := (if_neg c1).symm.trans hF
    refine q_iload_n Cx dX4_endOfAll_12 rfl (lv_at hl 1 rfl) ?_
    refine q_aload_n Cx dX4_endOfAll_13 rfl (lv_at hl 0 rfl) ?_
    refine q_get (v := .ref (vA V j 6)) Cx hW (oP hj) ic4 4 (by decide) rfl wd_52 dX4_endOfAll_14 ?_
    refine q_iload_n Cx dX4_endOfAll_17 rfl (lv_at hl 2 rfl) ?_
    obtain ⟨h3, v2, e4, hF⟩ := ld_some hF
    refine qb_iald Cx hW (ai_6 hj) h3 e4 dX4_endOfAll_18 ?_
    obtain ⟨x5, e6, hF⟩ := lt1_some hF
    refine q_max Cx wd_270 wd_271 wd_23 wd_272 hl.1 (by decide) (Nat.le_of_ble_eq_true rfl) e6.symm dX4_endOfAll_19 ?_
    refine q_istore_n (lv' := [(1, .int x5), (0, .ref (vA V j 1)), (2, .int l2)]) Cx dX4_endOfAll_22 rfl hl (by decide) rfl (fun ls hl => ?_)
    obtain ⟨x7, e8, hF⟩ := lt1_some hF
    refine q_iinc (k := 2) (v := x7) (lv' := [(2, .int x7), (1, .int x5), (0, .ref (vA V j 1))]) Cx dX4_endOfAll_23 hl rfl e8.symm (by decide) rfl (fun ls hl => ?_)
    refine q_goto (tgt := 4) Cx dX4_endOfAll_26 (by decide) ?_
    exact hk4 hW (lv_sub hl [2, 1, 0] rfl) hF
def FX4_endOfAll_4 (B : Blk) : Nat → Int32 → Int32 → Option Int32
  | 0 => fun _ _ => none
  | n + 1 => FX4_endOfAll_4s B (FX4_endOfAll_4 B n)
set_option maxRecDepth 100000 in
theorem wX4_endOfAll_4 {E : WE} {V : VT} {A : Nat → Prop} {H0 : Heap} {M : Mem} {j : Nat} (hj : j < 11) (Cx : CX E RX4 cX4_endOfAll 3 1 40) {r : Int32} {B : Blk} (hret : RetI E V A H0 cX4_endOfAll .int r (jb M j B)) : ∀ (n : Nat) {H : Heap} {locs : List Loc} {ls : Array Slot} {l1 : Int32} {l2 : Int32}, Wd V A H0 (jb M j B) (eS E) H locs → lv_has ls 3 [(0, .ref (vA V j 1)), (1, .int l1), (2, .int l2)] → FX4_endOfAll_4 B n l1 l2 = some r → Wq E H locs 4 ls [] := by
  intro n
  induction n with
  | zero => intro _ _ _ _ _ hW hl hF; cases hF
  | succ n ih => intro _ _ _ _ _ hW hl hF; exact wX4_endOfAll_4s hj Cx hret ih hW hl hF
def FX4_endOfAll (B : Blk) : Option Int32 :=
  FX4_endOfAll_4 B fu (0 : Int32) (0 : Int32)
set_option maxRecDepth 100000 in
set_option maxHeartbeats 4000000 in
theorem wX4_endOfAll {E : WE} {V : VT} {A : Nat → Prop} {H0 : Heap} {M : Mem} {j : Nat} (hj : j < 11) (Cx : CX E RX4 cX4_endOfAll 3 1 40) {r : Int32} {B : Blk} (hret : RetI E V A H0 cX4_endOfAll .int r (jb M j B)) {H : Heap} {locs : List Loc} {ls : Array Slot} (hW : Wd V A H0 (jb M j B) (eS E) H locs) (hl : lv_has ls 3 [(0, .ref (vA V j 1))]) (hF : FX4_endOfAll B = some r) : Wq E H locs 0 ls [] := by
  unfold FX4_endOfAll at hF
  refine q_iconst (v := (0 : Int32)) Cx dX4_endOfAll_0 (by decide) ?_
  refine q_istore_n (lv' := [(1, .int (0 : Int32)), (0, .ref (vA V j 1))]) Cx dX4_endOfAll_1 rfl hl (by decide) rfl (fun ls hl => ?_)
  refine q_iconst (v := (0 : Int32)) Cx dX4_endOfAll_2 (by decide) ?_
  refine q_istore_n (lv' := [(2, .int (0 : Int32)), (1, .int (0 : Int32)), (0, .ref (vA V j 1))]) Cx dX4_endOfAll_3 rfl hl (by decide) rfl (fun ls hl => ?_)
  exact wX4_endOfAll_4 hj Cx hret fu hW (lv_sub hl [2, 1, 0] rfl) hF
set_option maxRecDepth 100000 in
theorem kX4_endOfAll {l : Launch} {V : VT} {M : Mem} {j : Nat} (hj : j < 11) {B : Blk} {r : Int32} (hF : FX4_endOfAll B = some r) : MetI l V yX4_endOfAll cX4_endOfAll 3 .int ({ frames := 1, cells := 0, slots := 0, locals := 40 } : Room) [.ref (vA V j 1)] r (jb M j B) (jb M j B) := metI_of (by decide) (Nat.le_of_ble_eq_true rfl) (fun E H0 _ Cx hret H locs ls hW hl => wX4_endOfAll hj Cx hret hW hl hF)
theorem dX4_waitedFor_0 : decode cX4_waitedFor 0 = .ok (.aload_n 0, 1) := by decide +kernel
theorem dX4_waitedFor_1 : decode cX4_waitedFor 1 = .ok (.iload_n 1, 1) := by decide +kernel
theorem dX4_waitedFor_2 : decode cX4_waitedFor 2 = .ok (.invokevirtual 79, 3) := by decide +kernel
theorem dX4_waitedFor_5 : decode cX4_waitedFor 5 = .ok (.istore_n 2, 1) := by decide +kernel
theorem dX4_waitedFor_6 : decode cX4_waitedFor 6 = .ok (.aload_n 0, 1) := by decide +kernel
theorem dX4_waitedFor_7 : decode cX4_waitedFor 7 = .ok (.iload_n 1, 1) := by decide +kernel
theorem dX4_waitedFor_8 : decode cX4_waitedFor 8 = .ok (.invokevirtual 82, 3) := by decide +kernel
theorem dX4_waitedFor_11 : decode cX4_waitedFor 11 = .ok (.istore_n 3, 1) := by decide +kernel
theorem dX4_waitedFor_12 : decode cX4_waitedFor 12 = .ok (.aload_n 0, 1) := by decide +kernel
theorem dX4_waitedFor_13 : decode cX4_waitedFor 13 = .ok (.getfield 18, 3) := by decide +kernel
theorem dX4_waitedFor_16 : decode cX4_waitedFor 16 = .ok (.iload_n 1, 1) := by decide +kernel
theorem dX4_waitedFor_17 : decode cX4_waitedFor 17 = .ok (.iaload, 1) := by decide +kernel
theorem dX4_waitedFor_18 : decode cX4_waitedFor 18 = .ok (.istore 4, 2) := by decide +kernel
theorem dX4_waitedFor_20 : decode cX4_waitedFor 20 = .ok (.aload_n 0, 1) := by decide +kernel
theorem dX4_waitedFor_21 : decode cX4_waitedFor 21 = .ok (.iload_n 3, 1) := by decide +kernel
theorem dX4_waitedFor_22 : decode cX4_waitedFor 22 = .ok (.invokevirtual 68, 3) := by decide +kernel
theorem dX4_waitedFor_25 : decode cX4_waitedFor 25 = .ok (.ifCond .eq 19, 3) := by decide +kernel
theorem dX4_waitedFor_28 : decode cX4_waitedFor 28 = .ok (.aload_n 0, 1) := by decide +kernel
theorem dX4_waitedFor_29 : decode cX4_waitedFor 29 = .ok (.getfield 21, 3) := by decide +kernel
theorem dX4_waitedFor_32 : decode cX4_waitedFor 32 = .ok (.iload_n 3, 1) := by decide +kernel
theorem dX4_waitedFor_33 : decode cX4_waitedFor 33 = .ok (.iaload, 1) := by decide +kernel
theorem dX4_waitedFor_34 : decode cX4_waitedFor 34 = .ok (.iload_n 2, 1) := by decide +kernel
theorem dX4_waitedFor_35 : decode cX4_waitedFor 35 = .ok (.if_icmp .ne 9, 3) := by decide +kernel
theorem dX4_waitedFor_38 : decode cX4_waitedFor 38 = .ok (.iconst 1, 1) := by decide +kernel
theorem dX4_waitedFor_39 : decode cX4_waitedFor 39 = .ok (.iload_n 3, 1) := by decide +kernel
theorem dX4_waitedFor_40 : decode cX4_waitedFor 40 = .ok (.ishl, 1) := by decide +kernel
theorem dX4_waitedFor_41 : decode cX4_waitedFor 41 = .ok (.goto 4, 3) := by decide +kernel
theorem dX4_waitedFor_44 : decode cX4_waitedFor 44 = .ok (.iconst 0, 1) := by decide +kernel
theorem dX4_waitedFor_45 : decode cX4_waitedFor 45 = .ok (.istore 5, 2) := by decide +kernel
theorem dX4_waitedFor_47 : decode cX4_waitedFor 47 = .ok (.aload_n 0, 1) := by decide +kernel
theorem dX4_waitedFor_48 : decode cX4_waitedFor 48 = .ok (.iload 4, 2) := by decide +kernel
theorem dX4_waitedFor_50 : decode cX4_waitedFor 50 = .ok (.invokevirtual 68, 3) := by decide +kernel
theorem dX4_waitedFor_53 : decode cX4_waitedFor 53 = .ok (.ifCond .eq 24, 3) := by decide +kernel
theorem dX4_waitedFor_56 : decode cX4_waitedFor 56 = .ok (.aload_n 0, 1) := by decide +kernel
theorem dX4_waitedFor_57 : decode cX4_waitedFor 57 = .ok (.getfield 21, 3) := by decide +kernel
theorem dX4_waitedFor_60 : decode cX4_waitedFor 60 = .ok (.iload 4, 2) := by decide +kernel
theorem dX4_waitedFor_62 : decode cX4_waitedFor 62 = .ok (.iaload, 1) := by decide +kernel
theorem dX4_waitedFor_63 : decode cX4_waitedFor 63 = .ok (.iload_n 2, 1) := by decide +kernel
theorem dX4_waitedFor_64 : decode cX4_waitedFor 64 = .ok (.if_icmp .ne 13, 3) := by decide +kernel
theorem dX4_waitedFor_67 : decode cX4_waitedFor 67 = .ok (.iload 5, 2) := by decide +kernel
theorem dX4_waitedFor_69 : decode cX4_waitedFor 69 = .ok (.iconst 1, 1) := by decide +kernel
theorem dX4_waitedFor_70 : decode cX4_waitedFor 70 = .ok (.iload 4, 2) := by decide +kernel
theorem dX4_waitedFor_72 : decode cX4_waitedFor 72 = .ok (.ishl, 1) := by decide +kernel
theorem dX4_waitedFor_73 : decode cX4_waitedFor 73 = .ok (.ior, 1) := by decide +kernel
theorem dX4_waitedFor_74 : decode cX4_waitedFor 74 = .ok (.goto 5, 3) := by decide +kernel
theorem dX4_waitedFor_77 : decode cX4_waitedFor 77 = .ok (.iload 5, 2) := by decide +kernel
theorem dX4_waitedFor_79 : decode cX4_waitedFor 79 = .ok (.ireturn, 1) := by decide +kernel
theorem okX4_waitedFor : CalOK yX4_waitedFor cX4_waitedFor 6 (some .int) 1 := ⟨wd_18, wd_353, by decide +kernel⟩
theorem ovX4_waitedFor : VirOK yX4_waitedFor := ⟨wd_352, wd_3⟩
def FX4_waitedFor_45 (B : Blk) (l2 : Int32) (l4 : Int32) (s0 : Int32) : Option Int32 :=
  c1 (FX4_has B l4) fun r11 =>
  if r11 = 0 then
    some s0
  else
    ld (B 6) 24 l4 fun v14 =>
    if v14 = l2 then
      some (s0 ||| ((1 : Int32) <<< (l4 &&& 31)))
    else
      some s0
set_option maxRecDepth 100000 in
set_option maxHeartbeats 4000000 in
theorem wX4_waitedFor_45 {E : WE} {V : VT} {A : Nat → Prop} {H0 : Heap} {M : Mem} {j : Nat} (hj : j < 11) (Cx : CX E RX4 cX4_waitedFor 6 3 66) {r : Int32} {B : Blk} (hret : RetI E V A H0 cX4_waitedFor .int r (jb M j B)) {H : Heap} {locs : List Loc} {ls : Array Slot} {l2 : Int32} {l4 : Int32} {s0 : Int32} (hW : Wd V A H0 (jb M j B) (eS E) H locs) (hl : lv_has ls 6 [(0, .ref (vA V j 1)), (2, .int l2), (4, .int l4)]) (hF : FX4_waitedFor_45 B l2 l4 s0 = some r) : Wq E H locs 45 ls [.int s0] := by
  unfold FX4_waitedFor_45 at hF
  refine q_istore (lv' := [(5, .int s0), (0, .ref (vA V j 1)), (2, .int l2), (4, .int l4)]) Cx dX4_waitedFor_45 hl (by decide) rfl (fun ls hl => ?_)
  refine q_aload_n Cx dX4_waitedFor_47 rfl (lv_at hl 1 rfl) ?_
  refine q_iload Cx dX4_waitedFor_48 (lv_at hl 3 rfl) ?_
  obtain ⟨r11, e12, hF⟩ := c1_some hF
  refine q_callI (as := [.int l4]) (rest := []) Cx (kX4_has hj e12) okX4_has ovX4_has wd_269 ⟨rfl, rfl, by decide, by decide⟩ hW (oP hj) ic4 rfl hl.1 (Nat.le_of_ble_eq_true rfl) rfl dX4_waitedFor_50 (fun H locs hW => ?_)
  refine q_if_eq (tgt := 77) Cx dX4_waitedFor_53 (by decide) (fun c13 => ?_) (fun c13 => ?_)
  · have hF := (if_pos c13).symm.trans hF
    refine q_iload Cx dX4_waitedFor_77 (lv_at hl 0 rfl) ?_
    obtain rfl := Option.some.inj hF
    exact hret _ _ _ _ dX4_waitedFor_79 (nI32 _) hW
  · have hF := (if_neg c13).symm.trans hF
    refine q_aload_n Cx dX4_waitedFor_56 rfl (lv_at hl 1 rfl) ?_
    refine q_get (v := .ref (vA V j 6)) Cx hW (oP hj) ic4 4 (by decide) rfl wd_52 dX4_waitedFor_57 ?_
    refine q_iload Cx dX4_waitedFor_60 (lv_at hl 3 rfl) ?_
    obtain ⟨h15, v14, e16, hF⟩ := ld_some hF
    refine qb_iald Cx hW (ai_6 hj) h15 e16 dX4_waitedFor_62 ?_
    refine q_iload_n Cx dX4_waitedFor_63 rfl (lv_at hl 2 rfl) ?_
    refine q_icmp_ne (tgt := 77) Cx dX4_waitedFor_64 (by decide) (fun c17 => ?_) (fun c17 => ?_)
    · have hF := (if_neg c17).symm.trans hF
      refine q_iload Cx dX4_waitedFor_77 (lv_at hl 0 rfl) ?_
      obtain rfl := Option.some.inj hF
      exact hret _ _ _ _ dX4_waitedFor_79 (nI32 _) hW
    · have hF := (if_pos c17).symm.trans hF
      refine q_iload Cx dX4_waitedFor_67 (lv_at hl 0 rfl) ?_
      refine q_iconst (v := (1 : Int32)) Cx dX4_waitedFor_69 (by decide) ?_
      refine q_iload Cx dX4_waitedFor_70 (lv_at hl 3 rfl) ?_
      refine q_ishl Cx dX4_waitedFor_72 ?_
      refine q_ior Cx dX4_waitedFor_73 ?_
      refine q_goto (tgt := 79) Cx dX4_waitedFor_74 (by decide) ?_
      obtain rfl := Option.some.inj hF
      exact hret _ _ _ _ dX4_waitedFor_79 (nI32 _) hW
def FX4_waitedFor_44 (B : Blk) (l2 : Int32) (l4 : Int32) : Option Int32 :=
  FX4_waitedFor_45 B l2 l4 (0 : Int32)
set_option maxRecDepth 100000 in
set_option maxHeartbeats 4000000 in
theorem wX4_waitedFor_44 {E : WE} {V : VT} {A : Nat → Prop} {H0 : Heap} {M : Mem} {j : Nat} (hj : j < 11) (Cx : CX E RX4 cX4_waitedFor 6 3 66) {r : Int32} {B : Blk} (hret : RetI E V A H0 cX4_waitedFor .int r (jb M j B)) {H : Heap} {locs : List Loc} {ls : Array Slot} {l2 : Int32} {l4 : Int32} (hW : Wd V A H0 (jb M j B) (eS E) H locs) (hl : lv_has ls 6 [(0, .ref (vA V j 1)), (2, .int l2), (4, .int l4)]) (hF : FX4_waitedFor_44 B l2 l4 = some r) : Wq E H locs 44 ls [] := by
  unfold FX4_waitedFor_44 at hF
  refine q_iconst (v := (0 : Int32)) Cx dX4_waitedFor_44 (by decide) ?_
  exact wX4_waitedFor_45 hj Cx hret hW (lv_sub hl [0, 1, 2] rfl) hF
def FX4_waitedFor (B : Blk) (l1 : Int32) : Option Int32 :=
  c1 (FX4_startOf B l1) fun r1 =>
  c1 (FX4_inFrontOf B l1) fun r3 =>
  ld (B 5) 24 l1 fun v5 =>
  c1 (FX4_has B r3) fun r8 =>
  if r8 = 0 then
    FX4_waitedFor_44 B r1 v5
  else
    ld (B 6) 24 r3 fun v18 =>
    if v18 = r1 then
      FX4_waitedFor_45 B r1 v5 ((1 : Int32) <<< (r3 &&& 31))
    else
      FX4_waitedFor_44 B r1 v5
set_option maxRecDepth 100000 in
set_option maxHeartbeats 4000000 in
theorem wX4_waitedFor {E : WE} {V : VT} {A : Nat → Prop} {H0 : Heap} {M : Mem} {j : Nat} (hj : j < 11) (Cx : CX E RX4 cX4_waitedFor 6 3 66) {r : Int32} {B : Blk} (hret : RetI E V A H0 cX4_waitedFor .int r (jb M j B)) {H : Heap} {locs : List Loc} {ls : Array Slot} {l1 : Int32} (hW : Wd V A H0 (jb M j B) (eS E) H locs) (hl : lv_has ls 6 [(0, .ref (vA V j 1)), (1, .int l1)]) (hF : FX4_waitedFor B l1 = some r) : Wq E H locs 0 ls [] := by
  unfold FX4_waitedFor at hF
  refine q_aload_n Cx dX4_waitedFor_0 rfl (lv_at hl 0 rfl) ?_
  refine q_iload_n Cx dX4_waitedFor_1 rfl (lv_at hl 1 rfl) ?_
  obtain ⟨r1, e2, hF⟩ := c1_some hF
  refine q_callI (as := [.int l1]) (rest := []) Cx (kX4_startOf hj e2) okX4_startOf ovX4_startOf wd_354 ⟨rfl, rfl, by decide, by decide⟩ hW (oP hj) ic4 rfl hl.1 (Nat.le_of_ble_eq_true rfl) rfl dX4_waitedFor_2 (fun H locs hW => ?_)
  refine q_istore_n (lv' := [(2, .int r1), (0, .ref (vA V j 1)), (1, .int l1)]) Cx dX4_waitedFor_5 rfl hl (by decide) rfl (fun ls hl => ?_)
  refine q_aload_n Cx dX4_waitedFor_6 rfl (lv_at hl 1 rfl) ?_
  refine q_iload_n Cx dX4_waitedFor_7 rfl (lv_at hl 2 rfl) ?_
  obtain ⟨r3, e4, hF⟩ := c1_some hF
  refine q_callI (as := [.int l1]) (rest := []) Cx (kX4_inFrontOf hj e4) okX4_inFrontOf ovX4_inFrontOf wd_355 ⟨rfl, rfl, by decide, by decide⟩ hW (oP hj) ic4 rfl hl.1 (Nat.le_of_ble_eq_true rfl) rfl dX4_waitedFor_8 (fun H locs hW => ?_)
  refine q_istore_n (lv' := [(3, .int r3), (2, .int r1), (0, .ref (vA V j 1)), (1, .int l1)]) Cx dX4_waitedFor_11 rfl hl (by decide) rfl (fun ls hl => ?_)
  refine q_aload_n Cx dX4_waitedFor_12 rfl (lv_at hl 2 rfl) ?_
  refine q_get (v := .ref (vA V j 5)) Cx hW (oP hj) ic4 3 (by decide) rfl wd_50 dX4_waitedFor_13 ?_
  refine q_iload_n Cx dX4_waitedFor_16 rfl (lv_at hl 3 rfl) ?_
  obtain ⟨h6, v5, e7, hF⟩ := ld_some hF
  refine qb_iald Cx hW (ai_5 hj) h6 e7 dX4_waitedFor_17 ?_
  refine q_istore (lv' := [(4, .int v5), (3, .int r3), (2, .int r1), (0, .ref (vA V j 1)), (1, .int l1)]) Cx dX4_waitedFor_18 hl (by decide) rfl (fun ls hl => ?_)
  refine q_aload_n Cx dX4_waitedFor_20 rfl (lv_at hl 3 rfl) ?_
  refine q_iload_n Cx dX4_waitedFor_21 rfl (lv_at hl 1 rfl) ?_
  obtain ⟨r8, e9, hF⟩ := c1_some hF
  refine q_callI (as := [.int r3]) (rest := []) Cx (kX4_has hj e9) okX4_has ovX4_has wd_269 ⟨rfl, rfl, by decide, by decide⟩ hW (oP hj) ic4 rfl hl.1 (Nat.le_of_ble_eq_true rfl) rfl dX4_waitedFor_22 (fun H locs hW => ?_)
  refine q_if_eq (tgt := 44) Cx dX4_waitedFor_25 (by decide) (fun c10 => ?_) (fun c10 => ?_)
  · have hF := (if_pos c10).symm.trans hF
    exact wX4_waitedFor_44 hj Cx hret hW (lv_sub hl [3, 2, 0] rfl) hF
  · have hF := (if_neg c10).symm.trans hF
    refine q_aload_n Cx dX4_waitedFor_28 rfl (lv_at hl 3 rfl) ?_
    refine q_get (v := .ref (vA V j 6)) Cx hW (oP hj) ic4 4 (by decide) rfl wd_52 dX4_waitedFor_29 ?_
    refine q_iload_n Cx dX4_waitedFor_32 rfl (lv_at hl 1 rfl) ?_
    obtain ⟨h19, v18, e20, hF⟩ := ld_some hF
    refine qb_iald Cx hW (ai_6 hj) h19 e20 dX4_waitedFor_33 ?_
    refine q_iload_n Cx dX4_waitedFor_34 rfl (lv_at hl 2 rfl) ?_
    refine q_icmp_ne (tgt := 44) Cx dX4_waitedFor_35 (by decide) (fun c21 => ?_) (fun c21 => ?_)
    · have hF := (if_neg c21).symm.trans hF
      exact wX4_waitedFor_44 hj Cx hret hW (lv_sub hl [3, 2, 0] rfl) hF
    · have hF := (if_pos c21).symm.trans hF
      refine q_iconst (v := (1 : Int32)) Cx dX4_waitedFor_38 (by decide) ?_
      refine q_iload_n Cx dX4_waitedFor_39 rfl (lv_at hl 1 rfl) ?_
      refine q_ishl Cx dX4_waitedFor_40 ?_
      refine q_goto (tgt := 45) Cx dX4_waitedFor_41 (by decide) ?_
      exact wX4_waitedFor_45 hj Cx hret hW (lv_sub hl [3, 2, 0] rfl) hF
set_option maxRecDepth 100000 in
theorem kX4_waitedFor {l : Launch} {V : VT} {M : Mem} {j : Nat} (hj : j < 11) {B : Blk} {l1 : Int32} {r : Int32} (hF : FX4_waitedFor B l1 = some r) : MetI l V yX4_waitedFor cX4_waitedFor 6 .int ({ frames := 3, cells := 0, slots := 0, locals := 66 } : Room) [.ref (vA V j 1), .int l1] r (jb M j B) (jb M j B) := metI_of (by decide) (Nat.le_of_ble_eq_true rfl) (fun E H0 _ Cx hret H locs ls hW hl => wX4_waitedFor hj Cx hret hW hl hF)
theorem dX4_longestChain_0 : decode cX4_longestChain 0 = .ok (.aload_n 0, 1) := by decide +kernel
theorem dX4_longestChain_1 : decode cX4_longestChain 1 = .ok (.invokevirtual 72, 3) := by decide +kernel
theorem dX4_longestChain_4 : decode cX4_longestChain 4 = .ok (.istore_n 1, 1) := by decide +kernel
theorem dX4_longestChain_5 : decode cX4_longestChain 5 = .ok (.iconst 0, 1) := by decide +kernel
theorem dX4_longestChain_6 : decode cX4_longestChain 6 = .ok (.istore_n 2, 1) := by decide +kernel
theorem dX4_longestChain_7 : decode cX4_longestChain 7 = .ok (.aload_n 0, 1) := by decide +kernel
theorem dX4_longestChain_8 : decode cX4_longestChain 8 = .ok (.getfield 39, 3) := by decide +kernel
theorem dX4_longestChain_11 : decode cX4_longestChain 11 = .ok (.iconst 1, 1) := by decide +kernel
theorem dX4_longestChain_12 : decode cX4_longestChain 12 = .ok (.isub, 1) := by decide +kernel
theorem dX4_longestChain_13 : decode cX4_longestChain 13 = .ok (.istore_n 3, 1) := by decide +kernel
theorem dX4_longestChain_14 : decode cX4_longestChain 14 = .ok (.iload_n 3, 1) := by decide +kernel
theorem dX4_longestChain_15 : decode cX4_longestChain 15 = .ok (.ifCond .lt 51, 3) := by decide +kernel
theorem dX4_longestChain_18 : decode cX4_longestChain 18 = .ok (.aload_n 0, 1) := by decide +kernel
theorem dX4_longestChain_19 : decode cX4_longestChain 19 = .ok (.getfield 24, 3) := by decide +kernel
theorem dX4_longestChain_22 : decode cX4_longestChain 22 = .ok (.iload_n 3, 1) := by decide +kernel
theorem dX4_longestChain_23 : decode cX4_longestChain 23 = .ok (.iaload, 1) := by decide +kernel
theorem dX4_longestChain_24 : decode cX4_longestChain 24 = .ok (.istore 4, 2) := by decide +kernel
theorem dX4_longestChain_26 : decode cX4_longestChain 26 = .ok (.aload_n 0, 1) := by decide +kernel
theorem dX4_longestChain_27 : decode cX4_longestChain 27 = .ok (.getfield 21, 3) := by decide +kernel
theorem dX4_longestChain_30 : decode cX4_longestChain 30 = .ok (.iload 4, 2) := by decide +kernel
theorem dX4_longestChain_32 : decode cX4_longestChain 32 = .ok (.iaload, 1) := by decide +kernel
theorem dX4_longestChain_33 : decode cX4_longestChain 33 = .ok (.iload_n 1, 1) := by decide +kernel
theorem dX4_longestChain_34 : decode cX4_longestChain 34 = .ok (.if_icmp .eq 12, 3) := by decide +kernel
theorem dX4_longestChain_37 : decode cX4_longestChain 37 = .ok (.iload_n 2, 1) := by decide +kernel
theorem dX4_longestChain_38 : decode cX4_longestChain 38 = .ok (.iload 4, 2) := by decide +kernel
theorem dX4_longestChain_40 : decode cX4_longestChain 40 = .ok (.ishr, 1) := by decide +kernel
theorem dX4_longestChain_41 : decode cX4_longestChain 41 = .ok (.iconst 1, 1) := by decide +kernel
theorem dX4_longestChain_42 : decode cX4_longestChain 42 = .ok (.iand, 1) := by decide +kernel
theorem dX4_longestChain_43 : decode cX4_longestChain 43 = .ok (.ifCond .eq 17, 3) := by decide +kernel
theorem dX4_longestChain_46 : decode cX4_longestChain 46 = .ok (.iload_n 2, 1) := by decide +kernel
theorem dX4_longestChain_47 : decode cX4_longestChain 47 = .ok (.iconst 1, 1) := by decide +kernel
theorem dX4_longestChain_48 : decode cX4_longestChain 48 = .ok (.iload 4, 2) := by decide +kernel
theorem dX4_longestChain_50 : decode cX4_longestChain 50 = .ok (.ishl, 1) := by decide +kernel
theorem dX4_longestChain_51 : decode cX4_longestChain 51 = .ok (.aload_n 0, 1) := by decide +kernel
theorem dX4_longestChain_52 : decode cX4_longestChain 52 = .ok (.iload 4, 2) := by decide +kernel
theorem dX4_longestChain_54 : decode cX4_longestChain 54 = .ok (.invokevirtual 76, 3) := by decide +kernel
theorem dX4_longestChain_57 : decode cX4_longestChain 57 = .ok (.ior, 1) := by decide +kernel
theorem dX4_longestChain_58 : decode cX4_longestChain 58 = .ok (.ior, 1) := by decide +kernel
theorem dX4_longestChain_59 : decode cX4_longestChain 59 = .ok (.istore_n 2, 1) := by decide +kernel
theorem dX4_longestChain_60 : decode cX4_longestChain 60 = .ok (.iinc 3 (-1), 3) := by decide +kernel
theorem dX4_longestChain_63 : decode cX4_longestChain 63 = .ok (.goto (-49), 3) := by decide +kernel
theorem dX4_longestChain_66 : decode cX4_longestChain 66 = .ok (.iload_n 2, 1) := by decide +kernel
theorem dX4_longestChain_67 : decode cX4_longestChain 67 = .ok (.ireturn, 1) := by decide +kernel
theorem okX4_longestChain : CalOK yX4_longestChain cX4_longestChain 5 (some .int) 0 := ⟨wd_18, wd_345, by decide +kernel⟩
theorem ovX4_longestChain : VirOK yX4_longestChain := ⟨wd_343, wd_344⟩
def FX4_longestChain_46 (B : Blk) (k14 : Int32 → Int32 → Int32 → Option Int32) (l1 : Int32) (l2 : Int32) (l3 : Int32) (l4 : Int32) : Option Int32 :=
  c1 (FX4_waitedFor B l4) fun r13 =>
  lt1 (l2 ||| (((1 : Int32) <<< (l4 &&& 31)) ||| r13)) fun x15 =>
  lt1 (l3 + (-1 : Int32)) fun x17 =>
  k14 l1 x15 x17
set_option maxRecDepth 100000 in
set_option maxHeartbeats 4000000 in
theorem wX4_longestChain_46 {E : WE} {V : VT} {A : Nat → Prop} {H0 : Heap} {M : Mem} {j : Nat} (hj : j < 11) (Cx : CX E RX4 cX4_longestChain 5 4 91) {r : Int32} {B : Blk} (hret : RetI E V A H0 cX4_longestChain .int r (jb M j B)) {k14 : Int32 → Int32 → Int32 → Option Int32} (hk14 : ∀ {H : Heap} {locs : List Loc} {ls : Array Slot} {l1 : Int32} {l2 : Int32} {l3 : Int32}, Wd V A H0 (jb M j B) (eS E) H locs → lv_has ls 5 [(0, .ref (vA V j 1)), (1, .int l1), (2, .int l2), (3, .int l3)] → k14 l1 l2 l3 = some r → Wq E H locs 14 ls []) {H : Heap} {locs : List Loc} {ls : Array Slot} {l1 : Int32} {l2 : Int32} {l3 : Int32} {l4 : Int32} (hW : Wd V A H0 (jb M j B) (eS E) H locs) (hl : lv_has ls 5 [(0, .ref (vA V j 1)), (1, .int l1), (2, .int l2), (3, .int l3), (4, .int l4)]) (hF : FX4_longestChain_46 B k14 l1 l2 l3 l4 = some r) : Wq E H locs 46 ls [] := by
  unfold FX4_longestChain_46 at hF
  refine q_iload_n Cx dX4_longestChain_46 rfl (lv_at hl 2 rfl) ?_
  refine q_iconst (v := (1 : Int32)) Cx dX4_longestChain_47 (by decide) ?_
  refine q_iload Cx dX4_longestChain_48 (lv_at hl 4 rfl) ?_
  refine q_ishl Cx dX4_longestChain_50 ?_
  refine q_aload_n Cx dX4_longestChain_51 rfl (lv_at hl 0 rfl) ?_
  refine q_iload Cx dX4_longestChain_52 (lv_at hl 4 rfl) ?_
  obtain ⟨r13, e14, hF⟩ := c1_some hF
  refine q_callI (as := [.int l4]) (rest := [.int ((1 : Int32) <<< (l4 &&& 31)), .int l2]) Cx (kX4_waitedFor hj e14) okX4_waitedFor ovX4_waitedFor wd_350 ⟨rfl, rfl, by decide, by decide⟩ hW (oP hj) ic4 rfl hl.1 (Nat.le_of_ble_eq_true rfl) rfl dX4_longestChain_54 (fun H locs hW => ?_)
  refine q_ior Cx dX4_longestChain_57 ?_
  refine q_ior Cx dX4_longestChain_58 ?_
  obtain ⟨x15, e16, hF⟩ := lt1_some hF
  refine q_topi e16 ?_
  refine q_istore_n (lv' := [(2, .int x15), (0, .ref (vA V j 1)), (1, .int l1), (3, .int l3), (4, .int l4)]) Cx dX4_longestChain_59 rfl hl (by decide) rfl (fun ls hl => ?_)
  obtain ⟨x17, e18, hF⟩ := lt1_some hF
  refine q_iinc (k := 3) (v := x17) (lv' := [(3, .int x17), (2, .int x15), (0, .ref (vA V j 1)), (1, .int l1), (4, .int l4)]) Cx dX4_longestChain_60 hl rfl e18.symm (by decide) rfl (fun ls hl => ?_)
  refine q_goto (tgt := 14) Cx dX4_longestChain_63 (by decide) ?_
  exact hk14 hW (lv_sub hl [2, 3, 1, 0] rfl) hF
def FX4_longestChain_14s (B : Blk) (k14 : Int32 → Int32 → Int32 → Option Int32) (l1 : Int32) (l2 : Int32) (l3 : Int32) : Option Int32 :=
  if l3 < 0 then
    some l2
  else
    ld (B 7) 24 l3 fun v6 =>
    ld (B 6) 24 v6 fun v9 =>
    if v9 = l1 then
      FX4_longestChain_46 B k14 l1 l2 l3 v6
    else
      if ((l2 >>> (v6 &&& 31)) &&& (1 : Int32)) = 0 then
        lt1 (l3 + (-1 : Int32)) fun x20 =>
        k14 l1 l2 x20
      else
        FX4_longestChain_46 B k14 l1 l2 l3 v6
set_option maxRecDepth 100000 in
set_option maxHeartbeats 4000000 in
theorem wX4_longestChain_14s {E : WE} {V : VT} {A : Nat → Prop} {H0 : Heap} {M : Mem} {j : Nat} (hj : j < 11) (Cx : CX E RX4 cX4_longestChain 5 4 91) {r : Int32} {B : Blk} (hret : RetI E V A H0 cX4_longestChain .int r (jb M j B)) {k14 : Int32 → Int32 → Int32 → Option Int32} (hk14 : ∀ {H : Heap} {locs : List Loc} {ls : Array Slot} {l1 : Int32} {l2 : Int32} {l3 : Int32}, Wd V A H0 (jb M j B) (eS E) H locs → lv_has ls 5 [(0, .ref (vA V j 1)), (1, .int l1), (2, .int l2), (3, .int l3)] → k14 l1 l2 l3 = some r → Wq E H locs 14 ls []) {H : Heap} {locs : List Loc} {ls : Array Slot} {l1 : Int32} {l2 : Int32} {l3 : Int32} (hW : Wd V A H0 (jb M j B) (eS E) H locs) (hl : lv_has ls 5 [(0, .ref (vA V j 1)), (1, .int l1), (2, .int l2), (3, .int l3)]) (hF : FX4_longestChain_14s B k14 l1 l2 l3 = some r) : Wq E H locs 14 ls [] := by
  unfold FX4_longestChain_14s at hF
  refine q_iload_n Cx dX4_longestChain_14 rfl (lv_at hl 3 rfl) ?_
  refine q_if_lt (tgt := 66) Cx dX4_longestChain_15 (by decide) (fun c5 => ?_) (fun c5 => ?_)
  · have hF := (if_pos c5).symm.trans hF
    refine q_iload_n Cx dX4_longestChain_66 rfl (lv_at hl 2 rfl) ?_
    obtain rfl := Option.some.inj hF
    exact hret _ _ _ _ dX4_longestChain_67 (nI32 _) hW
  · have hF := (if_neg c5).symm.trans hF
    refine q_aload_n Cx dX4_longestChain_18 rfl (lv_at hl 0 rfl) ?_
    refine q_get (v := .ref (vA V j 7)) Cx hW (oP hj) ic4 5 (by decide) rfl wd_54 dX4_longestChain_19 ?_
    refine q_iload_n Cx dX4_longestChain_22 rfl (lv_at hl 3 rfl) ?_
    obtain ⟨h7, v6, e8, hF⟩ := ld_some hF
    refine qb_iald Cx hW (ai_7 hj) h7 e8 dX4_longestChain_23 ?_
    refine q_istore (lv' := [(4, .int v6), (0, .ref (vA V j 1)), (1, .int l1), (2, .int l2), (3, .int l3)]) Cx dX4_longestChain_24 hl (by decide) rfl (fun ls hl => ?_)
    refine q_aload_n Cx dX4_longestChain_26 rfl (lv_at hl 1 rfl) ?_
    refine q_get (v := .ref (vA V j 6)) Cx hW (oP hj) ic4 4 (by decide) rfl wd_52 dX4_longestChain_27 ?_
    refine q_iload Cx dX4_longestChain_30 (lv_at hl 0 rfl) ?_
    obtain ⟨h10, v9, e11, hF⟩ := ld_some hF
    refine qb_iald Cx hW (ai_6 hj) h10 e11 dX4_longestChain_32 ?_
    refine q_iload_n Cx dX4_longestChain_33 rfl (lv_at hl 2 rfl) ?_
    refine q_icmp_eq (tgt := 46) Cx dX4_longestChain_34 (by decide) (fun c12 => ?_) (fun c12 => ?_)
    · have hF := (if_pos c12).symm.trans hF
      exact wX4_longestChain_46 hj Cx hret hk14 hW (lv_sub hl [1, 2, 3, 4, 0] rfl) hF
    · have hF := (if_neg c12).symm.trans hF
      refine q_iload_n Cx dX4_longestChain_37 rfl (lv_at hl 3 rfl) ?_
      refine q_iload Cx dX4_longestChain_38 (lv_at hl 0 rfl) ?_
      refine q_ishr Cx dX4_longestChain_40 ?_
      refine q_iconst (v := (1 : Int32)) Cx dX4_longestChain_41 (by decide) ?_
      refine q_iand Cx dX4_longestChain_42 ?_
      refine q_if_eq (tgt := 60) Cx dX4_longestChain_43 (by decide) (fun c19 => ?_) (fun c19 => ?_)
      · have hF := (if_pos c19).symm.trans hF
        obtain ⟨x20, e21, hF⟩ := lt1_some hF
        refine q_iinc (k := 4) (v := x20) (lv' := [(3, .int x20), (4, .int v6), (0, .ref (vA V j 1)), (1, .int l1), (2, .int l2)]) Cx dX4_longestChain_60 hl rfl e21.symm (by decide) rfl (fun ls hl => ?_)
        refine q_goto (tgt := 14) Cx dX4_longestChain_63 (by decide) ?_
        exact hk14 hW (lv_sub hl [2, 3, 4, 0] rfl) hF
      · have hF := (if_neg c19).symm.trans hF
        exact wX4_longestChain_46 hj Cx hret hk14 hW (lv_sub hl [1, 2, 3, 4, 0] rfl) hF
def FX4_longestChain_14 (B : Blk) : Nat → Int32 → Int32 → Int32 → Option Int32
  | 0 => fun _ _ _ => none
  | n + 1 => FX4_longestChain_14s B (FX4_longestChain_14 B n)
set_option maxRecDepth 100000 in
theorem wX4_longestChain_14 {E : WE} {V : VT} {A : Nat → Prop} {H0 : Heap} {M : Mem} {j : Nat} (hj : j < 11) (Cx : CX E RX4 cX4_longestChain 5 4 91) {r : Int32} {B : Blk} (hret : RetI E V A H0 cX4_longestChain .int r (jb M j B)) : ∀ (n : Nat) {H : Heap} {locs : List Loc} {ls : Array Slot} {l1 : Int32} {l2 : Int32} {l3 : Int32}, Wd V A H0 (jb M j B) (eS E) H locs → lv_has ls 5 [(0, .ref (vA V j 1)), (1, .int l1), (2, .int l2), (3, .int l3)] → FX4_longestChain_14 B n l1 l2 l3 = some r → Wq E H locs 14 ls [] := by
  intro n
  induction n with
  | zero => intro _ _ _ _ _ _ hW hl hF; cases hF
  | succ n ih => intro _ _ _ _ _ _ hW hl hF; exact wX4_longestChain_14s hj Cx hret ih hW hl hF
def FX4_longestChain (B : Blk) : Option Int32 :=
  c1 (FX4_endOfAll B) fun r1 =>
  lt1 (((B 1) 0) - (1 : Int32)) fun x3 =>
  FX4_longestChain_14 B fu r1 (0 : Int32) x3
set_option maxRecDepth 100000 in
set_option maxHeartbeats 4000000 in
theorem wX4_longestChain {E : WE} {V : VT} {A : Nat → Prop} {H0 : Heap} {M : Mem} {j : Nat} (hj : j < 11) (Cx : CX E RX4 cX4_longestChain 5 4 91) {r : Int32} {B : Blk} (hret : RetI E V A H0 cX4_longestChain .int r (jb M j B)) {H : Heap} {locs : List Loc} {ls : Array Slot} (hW : Wd V A H0 (jb M j B) (eS E) H locs) (hl : lv_has ls 5 [(0, .ref (vA V j 1))]) (hF : FX4_longestChain B = some r) : Wq E H locs 0 ls [] := by
  unfold FX4_longestChain at hF
  refine q_aload_n Cx dX4_longestChain_0 rfl (lv_at hl 0 rfl) ?_
  obtain ⟨r1, e2, hF⟩ := c1_some hF
  refine q_callI (as := []) (rest := []) Cx (kX4_endOfAll hj e2) okX4_endOfAll ovX4_endOfAll wd_346 ⟨rfl, rfl, by decide, by decide⟩ hW (oP hj) ic4 rfl hl.1 (Nat.le_of_ble_eq_true rfl) rfl dX4_longestChain_1 (fun H locs hW => ?_)
  refine q_istore_n (lv' := [(1, .int r1), (0, .ref (vA V j 1))]) Cx dX4_longestChain_4 rfl hl (by decide) rfl (fun ls hl => ?_)
  refine q_iconst (v := (0 : Int32)) Cx dX4_longestChain_5 (by decide) ?_
  refine q_istore_n (lv' := [(2, .int (0 : Int32)), (1, .int r1), (0, .ref (vA V j 1))]) Cx dX4_longestChain_6 rfl hl (by decide) rfl (fun ls hl => ?_)
  refine q_aload_n Cx dX4_longestChain_7 rfl (lv_at hl 2 rfl) ?_
  refine qb_get (v := .int ((B 1) 0)) Cx hW (oP hj) ic4 0 (by decide) rfl wd_44 dX4_longestChain_8 ?_
  refine q_iconst (v := (1 : Int32)) Cx dX4_longestChain_11 (by decide) ?_
  refine q_isub Cx dX4_longestChain_12 ?_
  obtain ⟨x3, e4, hF⟩ := lt1_some hF
  refine q_topi e4 ?_
  refine q_istore_n (lv' := [(3, .int x3), (2, .int (0 : Int32)), (1, .int r1), (0, .ref (vA V j 1))]) Cx dX4_longestChain_13 rfl hl (by decide) rfl (fun ls hl => ?_)
  exact wX4_longestChain_14 hj Cx hret fu hW (lv_sub hl [3, 2, 1, 0] rfl) hF
set_option maxRecDepth 100000 in
theorem kX4_longestChain {l : Launch} {V : VT} {M : Mem} {j : Nat} (hj : j < 11) {B : Blk} {r : Int32} (hF : FX4_longestChain B = some r) : MetI l V yX4_longestChain cX4_longestChain 5 .int ({ frames := 4, cells := 0, slots := 0, locals := 91 } : Room) [.ref (vA V j 1)] r (jb M j B) (jb M j B) := metI_of (by decide) (Nat.le_of_ble_eq_true rfl) (fun E H0 _ Cx hret H locs ls hW hl => wX4_longestChain hj Cx hret hW hl hF)
