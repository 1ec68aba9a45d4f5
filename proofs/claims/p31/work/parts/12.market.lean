theorem dX2_copyFrom_0 : decode cX2_copyFrom 0 = .ok (.aload_n 1, 1) := by decide +kernel
theorem dX2_copyFrom_1 : decode cX2_copyFrom 1 = .ok (.ifnonnull 4, 3) := by decide +kernel
theorem dX2_copyFrom_4 : decode cX2_copyFrom 4 = .ok (.return_, 1) := by decide +kernel
theorem dX2_copyFrom_5 : decode cX2_copyFrom 5 = .ok (.aload_n 0, 1) := by decide +kernel
theorem dX2_copyFrom_6 : decode cX2_copyFrom 6 = .ok (.getfield 12, 3) := by decide +kernel
theorem dX2_copyFrom_9 : decode cX2_copyFrom 9 = .ok (.aload_n 1, 1) := by decide +kernel
theorem dX2_copyFrom_10 : decode cX2_copyFrom 10 = .ok (.getfield 12, 3) := by decide +kernel
theorem dX2_copyFrom_13 : decode cX2_copyFrom 13 = .ok (.invokevirtual 48, 3) := by decide +kernel
theorem dX2_copyFrom_16 : decode cX2_copyFrom 16 = .ok (.aload_n 0, 1) := by decide +kernel
theorem dX2_copyFrom_17 : decode cX2_copyFrom 17 = .ok (.getfield 21, 3) := by decide +kernel
theorem dX2_copyFrom_20 : decode cX2_copyFrom 20 = .ok (.aload_n 1, 1) := by decide +kernel
theorem dX2_copyFrom_21 : decode cX2_copyFrom 21 = .ok (.getfield 21, 3) := by decide +kernel
theorem dX2_copyFrom_24 : decode cX2_copyFrom 24 = .ok (.invokevirtual 52, 3) := by decide +kernel
theorem dX2_copyFrom_27 : decode cX2_copyFrom 27 = .ok (.aload_n 0, 1) := by decide +kernel
theorem dX2_copyFrom_28 : decode cX2_copyFrom 28 = .ok (.aload_n 1, 1) := by decide +kernel
theorem dX2_copyFrom_29 : decode cX2_copyFrom 29 = .ok (.getfield 25, 3) := by decide +kernel
theorem dX2_copyFrom_32 : decode cX2_copyFrom 32 = .ok (.putfield 25, 3) := by decide +kernel
theorem dX2_copyFrom_35 : decode cX2_copyFrom 35 = .ok (.aload_n 0, 1) := by decide +kernel
theorem dX2_copyFrom_36 : decode cX2_copyFrom 36 = .ok (.aload_n 1, 1) := by decide +kernel
theorem dX2_copyFrom_37 : decode cX2_copyFrom 37 = .ok (.getfield 29, 3) := by decide +kernel
theorem dX2_copyFrom_40 : decode cX2_copyFrom 40 = .ok (.putfield 29, 3) := by decide +kernel
theorem dX2_copyFrom_43 : decode cX2_copyFrom 43 = .ok (.aload_n 1, 1) := by decide +kernel
theorem dX2_copyFrom_44 : decode cX2_copyFrom 44 = .ok (.getfield 32, 3) := by decide +kernel
theorem dX2_copyFrom_47 : decode cX2_copyFrom 47 = .ok (.iconst 0, 1) := by decide +kernel
theorem dX2_copyFrom_48 : decode cX2_copyFrom 48 = .ok (.aload_n 0, 1) := by decide +kernel
theorem dX2_copyFrom_49 : decode cX2_copyFrom 49 = .ok (.getfield 32, 3) := by decide +kernel
theorem dX2_copyFrom_52 : decode cX2_copyFrom 52 = .ok (.iconst 0, 1) := by decide +kernel
theorem dX2_copyFrom_53 : decode cX2_copyFrom 53 = .ok (.bipush 24, 2) := by decide +kernel
theorem dX2_copyFrom_55 : decode cX2_copyFrom 55 = .ok (.invokestatic 55, 3) := by decide +kernel
theorem dX2_copyFrom_58 : decode cX2_copyFrom 58 = .ok (.aload_n 1, 1) := by decide +kernel
theorem dX2_copyFrom_59 : decode cX2_copyFrom 59 = .ok (.getfield 36, 3) := by decide +kernel
theorem dX2_copyFrom_62 : decode cX2_copyFrom 62 = .ok (.iconst 0, 1) := by decide +kernel
theorem dX2_copyFrom_63 : decode cX2_copyFrom 63 = .ok (.aload_n 0, 1) := by decide +kernel
theorem dX2_copyFrom_64 : decode cX2_copyFrom 64 = .ok (.getfield 36, 3) := by decide +kernel
theorem dX2_copyFrom_67 : decode cX2_copyFrom 67 = .ok (.iconst 0, 1) := by decide +kernel
theorem dX2_copyFrom_68 : decode cX2_copyFrom 68 = .ok (.bipush 24, 2) := by decide +kernel
theorem dX2_copyFrom_70 : decode cX2_copyFrom 70 = .ok (.invokestatic 55, 3) := by decide +kernel
theorem dX2_copyFrom_73 : decode cX2_copyFrom 73 = .ok (.aload_n 1, 1) := by decide +kernel
theorem dX2_copyFrom_74 : decode cX2_copyFrom 74 = .ok (.getfield 39, 3) := by decide +kernel
theorem dX2_copyFrom_77 : decode cX2_copyFrom 77 = .ok (.iconst 0, 1) := by decide +kernel
theorem dX2_copyFrom_78 : decode cX2_copyFrom 78 = .ok (.aload_n 0, 1) := by decide +kernel
theorem dX2_copyFrom_79 : decode cX2_copyFrom 79 = .ok (.getfield 39, 3) := by decide +kernel
theorem dX2_copyFrom_82 : decode cX2_copyFrom 82 = .ok (.iconst 0, 1) := by decide +kernel
theorem dX2_copyFrom_83 : decode cX2_copyFrom 83 = .ok (.bipush 24, 2) := by decide +kernel
theorem dX2_copyFrom_85 : decode cX2_copyFrom 85 = .ok (.invokestatic 55, 3) := by decide +kernel
theorem dX2_copyFrom_88 : decode cX2_copyFrom 88 = .ok (.aload_n 1, 1) := by decide +kernel
theorem dX2_copyFrom_89 : decode cX2_copyFrom 89 = .ok (.getfield 42, 3) := by decide +kernel
theorem dX2_copyFrom_92 : decode cX2_copyFrom 92 = .ok (.iconst 0, 1) := by decide +kernel
theorem dX2_copyFrom_93 : decode cX2_copyFrom 93 = .ok (.aload_n 0, 1) := by decide +kernel
theorem dX2_copyFrom_94 : decode cX2_copyFrom 94 = .ok (.getfield 42, 3) := by decide +kernel
theorem dX2_copyFrom_97 : decode cX2_copyFrom 97 = .ok (.iconst 0, 1) := by decide +kernel
theorem dX2_copyFrom_98 : decode cX2_copyFrom 98 = .ok (.bipush 24, 2) := by decide +kernel
theorem dX2_copyFrom_100 : decode cX2_copyFrom 100 = .ok (.invokestatic 55, 3) := by decide +kernel
theorem dX2_copyFrom_103 : decode cX2_copyFrom 103 = .ok (.return_, 1) := by decide +kernel
theorem okX2_copyFrom : CalOK yX2_copyFrom cX2_copyFrom 2 (none) 1 := ⟨wd_17, wd_219, by decide +kernel⟩
theorem ovX2_copyFrom : VirOK yX2_copyFrom := ⟨wd_217, wd_218⟩
def FX2_copyFrom (B : Blk) (Bo : Blk) : Option Blk :=
  c1 (FX4_copyFrom B Bo) fun B3 =>
  c1 (FX0_copyFrom B3 Bo) fun B6 =>
  lt1 (bs B6 0 2 ((Bo 0) 2)) fun B7 =>
  lt1 (bs B7 0 3 ((Bo 0) 3)) fun B9 =>
  lt1 (bc B9 16 (va_cpy (Bo 16) (B9 16) 0 0 24)) fun B11 =>
  lt1 (bc B11 17 (va_cpy (Bo 17) (B11 17) 0 0 24)) fun B13 =>
  lt1 (bc B13 18 (va_cpy (Bo 18) (B13 18) 0 0 24)) fun B15 =>
  lt1 (bc B15 19 (va_cpy (Bo 19) (B15 19) 0 0 24)) fun B17 =>
  some B17
set_option maxRecDepth 100000 in
set_option maxHeartbeats 4000000 in
theorem wX2_copyFrom {E : WE} {V : VT} {A : Nat → Prop} {H0 : Heap} {M : Mem} {j : Nat} (hj : j < 11) {o : Nat} (ho : o < 11) (hoj : o ≠ j) (Cx : CX E RX2 cX2_copyFrom 2 2 81) {B' : Blk} (hret : RetV E V A H0 cX2_copyFrom (jb M j B')) {Bo : Blk} (hBo : Bo = M o) {H : Heap} {locs : List Loc} {ls : Array Slot} {B : Blk} (hW : Wd V A H0 (jb M j B) (eS E) H locs) (hl : lv_has ls 2 [(0, .ref (vA V j 0)), (1, .ref (vA V o 0))]) (hF : FX2_copyFrom B Bo = some B') : Wq E H locs 0 ls [] := by
  unfold FX2_copyFrom at hF
  refine q_aload_n Cx dX2_copyFrom_0 rfl (lv_at hl 1 rfl) ?_
  refine q_ifnonnull (tgt := 5) Cx dX2_copyFrom_1 (by decide) ?_
  refine q_aload_n Cx dX2_copyFrom_5 rfl (lv_at hl 0 rfl) ?_
  refine q_get (v := .ref (vA V j 1)) Cx hW (oM hj) ic2 0 (by decide) rfl wd_113 dX2_copyFrom_6 ?_
  refine q_aload_n Cx dX2_copyFrom_9 rfl (lv_at hl 1 rfl) ?_
  refine q_get (v := .ref (vA V o 1)) Cx hW (oM ho) ic2 0 (by decide) rfl wd_113 dX2_copyFrom_10 ?_
  obtain ⟨B3, e2, hF⟩ := c1_some hF
  refine q_callV (as := [.ref (vA V o 1)]) (rest := []) Cx (kX4_copyFrom hj ho hoj hBo e2) okX4_copyFrom ovX4_copyFrom wd_220 ⟨rfl, rfl, by decide, by decide⟩ hW (oP hj) ic4 rfl hl.1 (Nat.le_of_ble_eq_true rfl) rfl dX2_copyFrom_13 (fun H locs hW => ?_)
  refine q_aload_n Cx dX2_copyFrom_16 rfl (lv_at hl 0 rfl) ?_
  refine q_get (v := .ref (vA V j 2)) Cx hW (oM hj) ic2 1 (by decide) rfl wd_115 dX2_copyFrom_17 ?_
  refine q_aload_n Cx dX2_copyFrom_20 rfl (lv_at hl 1 rfl) ?_
  refine q_get (v := .ref (vA V o 2)) Cx hW (oM ho) ic2 1 (by decide) rfl wd_115 dX2_copyFrom_21 ?_
  obtain ⟨B6, e5, hF⟩ := c1_some hF
  refine q_callV (as := [.ref (vA V o 2)]) (rest := []) Cx (kX0_copyFrom hj ho hoj hBo e5) okX0_copyFrom ovX0_copyFrom wd_227 ⟨rfl, rfl, by decide, by decide⟩ hW (oC hj) ic0 rfl hl.1 (Nat.le_of_ble_eq_true rfl) rfl dX2_copyFrom_24 (fun H locs hW => ?_)
  refine q_aload_n Cx dX2_copyFrom_27 rfl (lv_at hl 0 rfl) ?_
  refine q_aload_n Cx dX2_copyFrom_28 rfl (lv_at hl 1 rfl) ?_
  refine q_get (v := .int ((Bo 0) 2)) Cx hW (oM ho) ic2 2 (by decide) (by rw [jb_ne hoj, ← hBo]; rfl) wd_117 dX2_copyFrom_29 ?_
  obtain ⟨B7, e8, hF⟩ := lt1_some hF
  refine qb_put Cx hW (oM hj) ic2 2 (by decide) (Nat.le_of_ble_eq_true rfl) e8 rfl rfl ⟨nI32 _, rfl⟩ wd_117 dX2_copyFrom_32 (fun H locs hW => ?_)
  refine q_aload_n Cx dX2_copyFrom_35 rfl (lv_at hl 0 rfl) ?_
  refine q_aload_n Cx dX2_copyFrom_36 rfl (lv_at hl 1 rfl) ?_
  refine q_get (v := .int ((Bo 0) 3)) Cx hW (oM ho) ic2 3 (by decide) (by rw [jb_ne hoj, ← hBo]; rfl) wd_118 dX2_copyFrom_37 ?_
  obtain ⟨B9, e10, hF⟩ := lt1_some hF
  refine qb_put Cx hW (oM hj) ic2 3 (by decide) (Nat.le_of_ble_eq_true rfl) e10 rfl rfl ⟨nI32 _, rfl⟩ wd_118 dX2_copyFrom_40 (fun H locs hW => ?_)
  refine q_aload_n Cx dX2_copyFrom_43 rfl (lv_at hl 1 rfl) ?_
  refine q_get (v := .ref (vA V o 16)) Cx hW (oM ho) ic2 4 (by decide) rfl wd_119 dX2_copyFrom_44 ?_
  refine q_iconst (v := (0 : Int32)) Cx dX2_copyFrom_47 (by decide) ?_
  refine q_aload_n Cx dX2_copyFrom_48 rfl (lv_at hl 0 rfl) ?_
  refine q_get (v := .ref (vA V j 16)) Cx hW (oM hj) ic2 4 (by decide) rfl wd_119 dX2_copyFrom_49 ?_
  refine q_iconst (v := (0 : Int32)) Cx dX2_copyFrom_52 (by decide) ?_
  refine q_bipush (v := (24 : Int32)) Cx dX2_copyFrom_53 (by decide) ?_
  obtain ⟨B11, e12, hF⟩ := lt1_some hF
  refine qb_copy (cnt := (24 : Int32)) (B' := B11) Cx hW (ai_16 ho) (ai_16 hj) hoj (by decide) (by decide) (by decide) (by rw [e12, hBo]; rfl) wd_232 wd_226 wd_225 wd_22 hl.1 (by decide) (Nat.le_of_ble_eq_true rfl) dX2_copyFrom_55 (fun H locs hW => ?_)
  refine q_aload_n Cx dX2_copyFrom_58 rfl (lv_at hl 1 rfl) ?_
  refine q_get (v := .ref (vA V o 17)) Cx hW (oM ho) ic2 5 (by decide) rfl wd_121 dX2_copyFrom_59 ?_
  refine q_iconst (v := (0 : Int32)) Cx dX2_copyFrom_62 (by decide) ?_
  refine q_aload_n Cx dX2_copyFrom_63 rfl (lv_at hl 0 rfl) ?_
  refine q_get (v := .ref (vA V j 17)) Cx hW (oM hj) ic2 5 (by decide) rfl wd_121 dX2_copyFrom_64 ?_
  refine q_iconst (v := (0 : Int32)) Cx dX2_copyFrom_67 (by decide) ?_
  refine q_bipush (v := (24 : Int32)) Cx dX2_copyFrom_68 (by decide) ?_
  obtain ⟨B13, e14, hF⟩ := lt1_some hF
  refine qb_copy (cnt := (24 : Int32)) (B' := B13) Cx hW (ai_17 ho) (ai_17 hj) hoj (by decide) (by decide) (by decide) (by rw [e14, hBo]; rfl) wd_232 wd_226 wd_225 wd_22 hl.1 (by decide) (Nat.le_of_ble_eq_true rfl) dX2_copyFrom_70 (fun H locs hW => ?_)
  refine q_aload_n Cx dX2_copyFrom_73 rfl (lv_at hl 1 rfl) ?_
  refine q_get (v := .ref (vA V o 18)) Cx hW (oM ho) ic2 6 (by decide) rfl wd_123 dX2_copyFrom_74 ?_
  refine q_iconst (v := (0 : Int32)) Cx dX2_copyFrom_77 (by decide) ?_
  refine q_aload_n Cx dX2_copyFrom_78 rfl (lv_at hl 0 rfl) ?_
  refine q_get (v := .ref (vA V j 18)) Cx hW (oM hj) ic2 6 (by decide) rfl wd_123 dX2_copyFrom_79 ?_
  refine q_iconst (v := (0 : Int32)) Cx dX2_copyFrom_82 (by decide) ?_
  refine q_bipush (v := (24 : Int32)) Cx dX2_copyFrom_83 (by decide) ?_
  obtain ⟨B15, e16, hF⟩ := lt1_some hF
  refine qb_copy (cnt := (24 : Int32)) (B' := B15) Cx hW (ai_18 ho) (ai_18 hj) hoj (by decide) (by decide) (by decide) (by rw [e16, hBo]; rfl) wd_232 wd_226 wd_225 wd_22 hl.1 (by decide) (Nat.le_of_ble_eq_true rfl) dX2_copyFrom_85 (fun H locs hW => ?_)
  refine q_aload_n Cx dX2_copyFrom_88 rfl (lv_at hl 1 rfl) ?_
  refine q_get (v := .ref (vA V o 19)) Cx hW (oM ho) ic2 7 (by decide) rfl wd_124 dX2_copyFrom_89 ?_
  refine q_iconst (v := (0 : Int32)) Cx dX2_copyFrom_92 (by decide) ?_
  refine q_aload_n Cx dX2_copyFrom_93 rfl (lv_at hl 0 rfl) ?_
  refine q_get (v := .ref (vA V j 19)) Cx hW (oM hj) ic2 7 (by decide) rfl wd_124 dX2_copyFrom_94 ?_
  refine q_iconst (v := (0 : Int32)) Cx dX2_copyFrom_97 (by decide) ?_
  refine q_bipush (v := (24 : Int32)) Cx dX2_copyFrom_98 (by decide) ?_
  obtain ⟨B17, e18, hF⟩ := lt1_some hF
  refine qb_copy (cnt := (24 : Int32)) (B' := B17) Cx hW (ai_19 ho) (ai_19 hj) hoj (by decide) (by decide) (by decide) (by rw [e18, hBo]; rfl) wd_232 wd_226 wd_225 wd_22 hl.1 (by decide) (Nat.le_of_ble_eq_true rfl) dX2_copyFrom_100 (fun H locs hW => ?_)
  obtain rfl := Option.some.inj hF
  exact hret _ _ _ _ dX2_copyFrom_103 hW
set_option maxRecDepth 100000 in
theorem kX2_copyFrom {l : Launch} {V : VT} {M : Mem} {j : Nat} (hj : j < 11) {o : Nat} (ho : o < 11) (hoj : o ≠ j) {Bo : Blk} (hBo : Bo = M o) {B : Blk} {B' : Blk} (hF : FX2_copyFrom B Bo = some B') : MetV l V yX2_copyFrom cX2_copyFrom 2 ({ frames := 2, cells := 0, slots := 0, locals := 81 } : Room) [.ref (vA V j 0), .ref (vA V o 0)] (jb M j B) (jb M j B') := metV_of (by decide) (Nat.le_of_ble_eq_true rfl) (fun E H0 _ Cx hret H locs ls hW hl => wX2_copyFrom hj ho hoj Cx hret hBo hW hl hF)
theorem dX2_changeSetting_0 : decode cX2_changeSetting 0 = .ok (.iload_n 1, 1) := by decide +kernel
theorem dX2_changeSetting_1 : decode cX2_changeSetting 1 = .ok (.ifCond .ne 26, 3) := by decide +kernel
theorem dX2_changeSetting_4 : decode cX2_changeSetting 4 = .ok (.iload_n 2, 1) := by decide +kernel
theorem dX2_changeSetting_5 : decode cX2_changeSetting 5 = .ok (.ifCond .lt 22, 3) := by decide +kernel
theorem dX2_changeSetting_8 : decode cX2_changeSetting 8 = .ok (.iload_n 2, 1) := by decide +kernel
theorem dX2_changeSetting_9 : decode cX2_changeSetting 9 = .ok (.bipush 100, 2) := by decide +kernel
theorem dX2_changeSetting_11 : decode cX2_changeSetting 11 = .ok (.if_icmp .gt 16, 3) := by decide +kernel
theorem dX2_changeSetting_14 : decode cX2_changeSetting 14 = .ok (.aload_n 0, 1) := by decide +kernel
theorem dX2_changeSetting_15 : decode cX2_changeSetting 15 = .ok (.getfield 25, 3) := by decide +kernel
theorem dX2_changeSetting_18 : decode cX2_changeSetting 18 = .ok (.istore_n 3, 1) := by decide +kernel
theorem dX2_changeSetting_19 : decode cX2_changeSetting 19 = .ok (.aload_n 0, 1) := by decide +kernel
theorem dX2_changeSetting_20 : decode cX2_changeSetting 20 = .ok (.iload_n 2, 1) := by decide +kernel
theorem dX2_changeSetting_21 : decode cX2_changeSetting 21 = .ok (.putfield 25, 3) := by decide +kernel
theorem dX2_changeSetting_24 : decode cX2_changeSetting 24 = .ok (.goto 35, 3) := by decide +kernel
theorem dX2_changeSetting_27 : decode cX2_changeSetting 27 = .ok (.iload_n 1, 1) := by decide +kernel
theorem dX2_changeSetting_28 : decode cX2_changeSetting 28 = .ok (.iconst 1, 1) := by decide +kernel
theorem dX2_changeSetting_29 : decode cX2_changeSetting 29 = .ok (.if_icmp .ne 27, 3) := by decide +kernel
theorem dX2_changeSetting_32 : decode cX2_changeSetting 32 = .ok (.iload_n 2, 1) := by decide +kernel
theorem dX2_changeSetting_33 : decode cX2_changeSetting 33 = .ok (.iconst 1, 1) := by decide +kernel
theorem dX2_changeSetting_34 : decode cX2_changeSetting 34 = .ok (.if_icmp .lt 22, 3) := by decide +kernel
theorem dX2_changeSetting_37 : decode cX2_changeSetting 37 = .ok (.iload_n 2, 1) := by decide +kernel
theorem dX2_changeSetting_38 : decode cX2_changeSetting 38 = .ok (.bipush 9, 2) := by decide +kernel
theorem dX2_changeSetting_40 : decode cX2_changeSetting 40 = .ok (.if_icmp .gt 16, 3) := by decide +kernel
theorem dX2_changeSetting_43 : decode cX2_changeSetting 43 = .ok (.aload_n 0, 1) := by decide +kernel
theorem dX2_changeSetting_44 : decode cX2_changeSetting 44 = .ok (.getfield 29, 3) := by decide +kernel
theorem dX2_changeSetting_47 : decode cX2_changeSetting 47 = .ok (.istore_n 3, 1) := by decide +kernel
theorem dX2_changeSetting_48 : decode cX2_changeSetting 48 = .ok (.aload_n 0, 1) := by decide +kernel
theorem dX2_changeSetting_49 : decode cX2_changeSetting 49 = .ok (.iload_n 2, 1) := by decide +kernel
theorem dX2_changeSetting_50 : decode cX2_changeSetting 50 = .ok (.putfield 29, 3) := by decide +kernel
theorem dX2_changeSetting_53 : decode cX2_changeSetting 53 = .ok (.goto 6, 3) := by decide +kernel
theorem dX2_changeSetting_56 : decode cX2_changeSetting 56 = .ok (.bipush (-2), 2) := by decide +kernel
theorem dX2_changeSetting_58 : decode cX2_changeSetting 58 = .ok (.istore_n 3, 1) := by decide +kernel
theorem dX2_changeSetting_59 : decode cX2_changeSetting 59 = .ok (.iload_n 3, 1) := by decide +kernel
theorem dX2_changeSetting_60 : decode cX2_changeSetting 60 = .ok (.ireturn, 1) := by decide +kernel
theorem okX2_changeSetting : CalOK yX2_changeSetting cX2_changeSetting 4 (some .int) 2 := ⟨wd_17, wd_236, by decide +kernel⟩
theorem ovX2_changeSetting : VirOK yX2_changeSetting := ⟨wd_234, wd_235⟩
def FX2_changeSetting_27 (l1 : Int32) (l2 : Int32) (B : Blk) : Option (Int32 × Blk) :=
  if l1 = (1 : Int32) then
    if l2 < (1 : Int32) then
      some ((-2 : Int32), B)
    else
      if (9 : Int32) < l2 then
        some ((-2 : Int32), B)
      else
        lt1 ((B 0) 3) fun x5 =>
        lt1 (bs B 0 3 l2) fun B7 =>
        some (x5, B7)
  else
    some ((-2 : Int32), B)
set_option maxRecDepth 100000 in
set_option maxHeartbeats 4000000 in
theorem wX2_changeSetting_27 {E : WE} {V : VT} {A : Nat → Prop} {H0 : Heap} {M : Mem} {j : Nat} (hj : j < 11) (Cx : CX E RX2 cX2_changeSetting 4 0 0) {r : Int32} {B' : Blk} (hret : RetI E V A H0 cX2_changeSetting .int r (jb M j B')) {H : Heap} {locs : List Loc} {ls : Array Slot} {l1 : Int32} {l2 : Int32} {B : Blk} (hW : Wd V A H0 (jb M j B) (eS E) H locs) (hl : lv_has ls 4 [(0, .ref (vA V j 0)), (1, .int l1), (2, .int l2)]) (hF : FX2_changeSetting_27 l1 l2 B = some (r, B')) : Wq E H locs 27 ls [] := by
  unfold FX2_changeSetting_27 at hF
  refine q_iload_n Cx dX2_changeSetting_27 rfl (lv_at hl 1 rfl) ?_
  refine q_iconst (v := (1 : Int32)) Cx dX2_changeSetting_28 (by decide) ?_
  refine q_icmp_ne (tgt := 56) Cx dX2_changeSetting_29 (by decide) (fun c2 => ?_) (fun c2 => ?_)
  · have hF := (if_neg c2).symm.trans hF
    refine q_bipush (v := (-2 : Int32)) Cx dX2_changeSetting_56 (by decide) ?_
    refine q_istore_n (lv' := [(3, .int (-2 : Int32)), (0, .ref (vA V j 0)), (1, .int l1), (2, .int l2)]) Cx dX2_changeSetting_58 rfl hl (by decide) rfl (fun ls hl => ?_)
    refine q_iload_n Cx dX2_changeSetting_59 rfl (lv_at hl 0 rfl) ?_
    obtain ⟨rfl, rfl⟩ := Prod.mk.inj (Option.some.inj hF)
    exact hret _ _ _ _ dX2_changeSetting_60 (nI32 _) hW
  · have hF := (if_pos c2).symm.trans hF
    refine q_iload_n Cx dX2_changeSetting_32 rfl (lv_at hl 2 rfl) ?_
    refine q_iconst (v := (1 : Int32)) Cx dX2_changeSetting_33 (by decide) ?_
    refine q_icmp_lt (tgt := 56) Cx dX2_changeSetting_34 (by decide) (fun c3 => ?_) (fun c3 => ?_)
    · have hF := (if_pos c3).symm.trans hF
      refine q_bipush (v := (-2 : Int32)) Cx dX2_changeSetting_56 (by decide) ?_
      refine q_istore_n (lv' := [(3, .int (-2 : Int32)), (0, .ref (vA V j 0)), (1, .int l1), (2, .int l2)]) Cx dX2_changeSetting_58 rfl hl (by decide) rfl (fun ls hl => ?_)
      refine q_iload_n Cx dX2_changeSetting_59 rfl (lv_at hl 0 rfl) ?_
      obtain ⟨rfl, rfl⟩ := Prod.mk.inj (Option.some.inj hF)
      exact hret _ _ _ _ dX2_changeSetting_60 (nI32 _) hW
    · have hF := (if_neg c3).symm.trans hF
      refine q_iload_n Cx dX2_changeSetting_37 rfl (lv_at hl 2 rfl) ?_
      refine q_bipush (v := (9 : Int32)) Cx dX2_changeSetting_38 (by decide) ?_
      refine q_icmp_gt (tgt := 56) Cx dX2_changeSetting_40 (by decide) (fun c4 => ?_) (fun c4 => ?_)
      · have hF := (if_pos c4).symm.trans hF
        refine q_bipush (v := (-2 : Int32)) Cx dX2_changeSetting_56 (by decide) ?_
        refine q_istore_n (lv' := [(3, .int (-2 : Int32)), (0, .ref (vA V j 0)), (1, .int l1), (2, .int l2)]) Cx dX2_changeSetting_58 rfl hl (by decide) rfl (fun ls hl => ?_)
        refine q_iload_n Cx dX2_changeSetting_59 rfl (lv_at hl 0 rfl) ?_
        obtain ⟨rfl, rfl⟩ := Prod.mk.inj (Option.some.inj hF)
        exact hret _ _ _ _ dX2_changeSetting_60 (nI32 _) hW
      · have hF := (if_neg c4).symm.trans hF
        refine q_aload_n Cx dX2_changeSetting_43 rfl (lv_at hl 0 rfl) ?_
        refine qb_get (v := .int ((B 0) 3)) Cx hW (oM hj) ic2 3 (by decide) rfl wd_118 dX2_changeSetting_44 ?_
        obtain ⟨x5, e6, hF⟩ := lt1_some hF
        refine q_topi e6 ?_
        refine q_istore_n (lv' := [(3, .int x5), (0, .ref (vA V j 0)), (1, .int l1), (2, .int l2)]) Cx dX2_changeSetting_47 rfl hl (by decide) rfl (fun ls hl => ?_)
        refine q_aload_n Cx dX2_changeSetting_48 rfl (lv_at hl 1 rfl) ?_
        refine q_iload_n Cx dX2_changeSetting_49 rfl (lv_at hl 3 rfl) ?_
        obtain ⟨B7, e8, hF⟩ := lt1_some hF
        refine qb_put Cx hW (oM hj) ic2 3 (by decide) (Nat.le_of_ble_eq_true rfl) e8 rfl rfl ⟨nI32 _, rfl⟩ wd_118 dX2_changeSetting_50 (fun H locs hW => ?_)
        refine q_goto (tgt := 59) Cx dX2_changeSetting_53 (by decide) ?_
        refine q_iload_n Cx dX2_changeSetting_59 rfl (lv_at hl 0 rfl) ?_
        obtain ⟨rfl, rfl⟩ := Prod.mk.inj (Option.some.inj hF)
        exact hret _ _ _ _ dX2_changeSetting_60 (nI32 _) hW
def FX2_changeSetting (B : Blk) (l1 : Int32) (l2 : Int32) : Option (Int32 × Blk) :=
  if l1 = 0 then
    if l2 < 0 then
      FX2_changeSetting_27 l1 l2 B
    else
      if (100 : Int32) < l2 then
        FX2_changeSetting_27 l1 l2 B
      else
        lt1 ((B 0) 2) fun x11 =>
        lt1 (bs B 0 2 l2) fun B13 =>
        some (x11, B13)
  else
    FX2_changeSetting_27 l1 l2 B
set_option maxRecDepth 100000 in
set_option maxHeartbeats 4000000 in
theorem wX2_changeSetting {E : WE} {V : VT} {A : Nat → Prop} {H0 : Heap} {M : Mem} {j : Nat} (hj : j < 11) (Cx : CX E RX2 cX2_changeSetting 4 0 0) {r : Int32} {B' : Blk} (hret : RetI E V A H0 cX2_changeSetting .int r (jb M j B')) {H : Heap} {locs : List Loc} {ls : Array Slot} {l1 : Int32} {l2 : Int32} {B : Blk} (hW : Wd V A H0 (jb M j B) (eS E) H locs) (hl : lv_has ls 4 [(0, .ref (vA V j 0)), (1, .int l1), (2, .int l2)]) (hF : FX2_changeSetting B l1 l2 = some (r, B')) : Wq E H locs 0 ls [] := by
  unfold FX2_changeSetting at hF
  refine q_iload_n Cx dX2_changeSetting_0 rfl (lv_at hl 1 rfl) ?_
  refine q_if_ne (tgt := 27) Cx dX2_changeSetting_1 (by decide) (fun c1 => ?_) (fun c1 => ?_)
  · have hF := (if_neg c1).symm.trans hF
    exact wX2_changeSetting_27 hj Cx hret hW (lv_sub hl [0, 1, 2] rfl) hF
  · have hF := (if_pos c1).symm.trans hF
    refine q_iload_n Cx dX2_changeSetting_4 rfl (lv_at hl 2 rfl) ?_
    refine q_if_lt (tgt := 27) Cx dX2_changeSetting_5 (by decide) (fun c9 => ?_) (fun c9 => ?_)
    · have hF := (if_pos c9).symm.trans hF
      exact wX2_changeSetting_27 hj Cx hret hW (lv_sub hl [0, 1, 2] rfl) hF
    · have hF := (if_neg c9).symm.trans hF
      refine q_iload_n Cx dX2_changeSetting_8 rfl (lv_at hl 2 rfl) ?_
      refine q_bipush (v := (100 : Int32)) Cx dX2_changeSetting_9 (by decide) ?_
      refine q_icmp_gt (tgt := 27) Cx dX2_changeSetting_11 (by decide) (fun c10 => ?_) (fun c10 => ?_)
      · have hF := (if_pos c10).symm.trans hF
        exact wX2_changeSetting_27 hj Cx hret hW (lv_sub hl [0, 1, 2] rfl) hF
      · have hF := (if_neg c10).symm.trans hF
        refine q_aload_n Cx dX2_changeSetting_14 rfl (lv_at hl 0 rfl) ?_
        refine qb_get (v := .int ((B 0) 2)) Cx hW (oM hj) ic2 2 (by decide) rfl wd_117 dX2_changeSetting_15 ?_
        obtain ⟨x11, e12, hF⟩ := lt1_some hF
        refine q_topi e12 ?_
        refine q_istore_n (lv' := [(3, .int x11), (0, .ref (vA V j 0)), (1, .int l1), (2, .int l2)]) Cx dX2_changeSetting_18 rfl hl (by decide) rfl (fun ls hl => ?_)
        refine q_aload_n Cx dX2_changeSetting_19 rfl (lv_at hl 1 rfl) ?_
        refine q_iload_n Cx dX2_changeSetting_20 rfl (lv_at hl 3 rfl) ?_
        obtain ⟨B13, e14, hF⟩ := lt1_some hF
        refine qb_put Cx hW (oM hj) ic2 2 (by decide) (Nat.le_of_ble_eq_true rfl) e14 rfl rfl ⟨nI32 _, rfl⟩ wd_117 dX2_changeSetting_21 (fun H locs hW => ?_)
        refine q_goto (tgt := 59) Cx dX2_changeSetting_24 (by decide) ?_
        refine q_iload_n Cx dX2_changeSetting_59 rfl (lv_at hl 0 rfl) ?_
        obtain ⟨rfl, rfl⟩ := Prod.mk.inj (Option.some.inj hF)
        exact hret _ _ _ _ dX2_changeSetting_60 (nI32 _) hW
set_option maxRecDepth 100000 in
theorem kX2_changeSetting {l : Launch} {V : VT} {M : Mem} {j : Nat} (hj : j < 11) {B : Blk} {l1 : Int32} {l2 : Int32} {r : Int32} {B' : Blk} (hF : FX2_changeSetting B l1 l2 = some (r, B')) : MetI l V yX2_changeSetting cX2_changeSetting 4 .int ({ frames := 0, cells := 0, slots := 0, locals := 0 } : Room) [.ref (vA V j 0), .int l1, .int l2] r (jb M j B) (jb M j B') := metI_of (by decide) (Nat.le_of_ble_eq_true rfl) (fun E H0 _ Cx hret H locs ls hW hl => wX2_changeSetting hj Cx hret hW hl hF)
theorem dX2_addTask_0 : decode cX2_addTask 0 = .ok (.iload_n 1, 1) := by decide +kernel
theorem dX2_addTask_1 : decode cX2_addTask 1 = .ok (.ifCond .lt 27, 3) := by decide +kernel
theorem dX2_addTask_4 : decode cX2_addTask 4 = .ok (.iload_n 1, 1) := by decide +kernel
theorem dX2_addTask_5 : decode cX2_addTask 5 = .ok (.iconst 4, 1) := by decide +kernel
theorem dX2_addTask_6 : decode cX2_addTask 6 = .ok (.if_icmp .ge 22, 3) := by decide +kernel
theorem dX2_addTask_9 : decode cX2_addTask 9 = .ok (.iload 5, 2) := by decide +kernel
theorem dX2_addTask_11 : decode cX2_addTask 11 = .ok (.bipush (-6), 2) := by decide +kernel
theorem dX2_addTask_13 : decode cX2_addTask 13 = .ok (.if_icmp .eq 17, 3) := by decide +kernel
theorem dX2_addTask_16 : decode cX2_addTask 16 = .ok (.aload_n 0, 1) := by decide +kernel
theorem dX2_addTask_17 : decode cX2_addTask 17 = .ok (.getfield 12, 3) := by decide +kernel
theorem dX2_addTask_20 : decode cX2_addTask 20 = .ok (.iload 5, 2) := by decide +kernel
theorem dX2_addTask_22 : decode cX2_addTask 22 = .ok (.invokevirtual 61, 3) := by decide +kernel
theorem dX2_addTask_25 : decode cX2_addTask 25 = .ok (.ifCond .ne 5, 3) := by decide +kernel
theorem dX2_addTask_28 : decode cX2_addTask 28 = .ok (.iconst (-1), 1) := by decide +kernel
theorem dX2_addTask_29 : decode cX2_addTask 29 = .ok (.ireturn, 1) := by decide +kernel
theorem dX2_addTask_30 : decode cX2_addTask 30 = .ok (.iload_n 2, 1) := by decide +kernel
theorem dX2_addTask_31 : decode cX2_addTask 31 = .ok (.iconst 1, 1) := by decide +kernel
theorem dX2_addTask_32 : decode cX2_addTask 32 = .ok (.if_icmp .lt 32, 3) := by decide +kernel
theorem dX2_addTask_35 : decode cX2_addTask 35 = .ok (.iload_n 2, 1) := by decide +kernel
theorem dX2_addTask_36 : decode cX2_addTask 36 = .ok (.bipush 100, 2) := by decide +kernel
theorem dX2_addTask_38 : decode cX2_addTask 38 = .ok (.if_icmp .gt 26, 3) := by decide +kernel
theorem dX2_addTask_41 : decode cX2_addTask 41 = .ok (.iload_n 3, 1) := by decide +kernel
theorem dX2_addTask_42 : decode cX2_addTask 42 = .ok (.ifCond .lt 22, 3) := by decide +kernel
theorem dX2_addTask_45 : decode cX2_addTask 45 = .ok (.iload_n 3, 1) := by decide +kernel
theorem dX2_addTask_46 : decode cX2_addTask 46 = .ok (.sipush 3000, 3) := by decide +kernel
theorem dX2_addTask_49 : decode cX2_addTask 49 = .ok (.if_icmp .gt 15, 3) := by decide +kernel
theorem dX2_addTask_52 : decode cX2_addTask 52 = .ok (.iload 4, 2) := by decide +kernel
theorem dX2_addTask_54 : decode cX2_addTask 54 = .ok (.ifCond .lt 10, 3) := by decide +kernel
theorem dX2_addTask_57 : decode cX2_addTask 57 = .ok (.iload 4, 2) := by decide +kernel
theorem dX2_addTask_59 : decode cX2_addTask 59 = .ok (.ldc 65, 2) := by decide +kernel
theorem dX2_addTask_61 : decode cX2_addTask 61 = .ok (.if_icmp .le 6, 3) := by decide +kernel
theorem dX2_addTask_64 : decode cX2_addTask 64 = .ok (.bipush (-2), 2) := by decide +kernel
theorem dX2_addTask_66 : decode cX2_addTask 66 = .ok (.ireturn, 1) := by decide +kernel
theorem dX2_addTask_67 : decode cX2_addTask 67 = .ok (.aload_n 0, 1) := by decide +kernel
theorem dX2_addTask_68 : decode cX2_addTask 68 = .ok (.getfield 12, 3) := by decide +kernel
theorem dX2_addTask_71 : decode cX2_addTask 71 = .ok (.getfield 66, 3) := by decide +kernel
theorem dX2_addTask_74 : decode cX2_addTask 74 = .ok (.istore 6, 2) := by decide +kernel
theorem dX2_addTask_76 : decode cX2_addTask 76 = .ok (.iload 6, 2) := by decide +kernel
theorem dX2_addTask_78 : decode cX2_addTask 78 = .ok (.bipush 24, 2) := by decide +kernel
theorem dX2_addTask_80 : decode cX2_addTask 80 = .ok (.if_icmp .lt 6, 3) := by decide +kernel
theorem dX2_addTask_83 : decode cX2_addTask 83 = .ok (.bipush (-4), 2) := by decide +kernel
theorem dX2_addTask_85 : decode cX2_addTask 85 = .ok (.ireturn, 1) := by decide +kernel
theorem dX2_addTask_86 : decode cX2_addTask 86 = .ok (.aload_n 0, 1) := by decide +kernel
theorem dX2_addTask_87 : decode cX2_addTask 87 = .ok (.getfield 32, 3) := by decide +kernel
theorem dX2_addTask_90 : decode cX2_addTask 90 = .ok (.iload 6, 2) := by decide +kernel
theorem dX2_addTask_92 : decode cX2_addTask 92 = .ok (.iload_n 3, 1) := by decide +kernel
theorem dX2_addTask_93 : decode cX2_addTask 93 = .ok (.iastore, 1) := by decide +kernel
theorem dX2_addTask_94 : decode cX2_addTask 94 = .ok (.aload_n 0, 1) := by decide +kernel
theorem dX2_addTask_95 : decode cX2_addTask 95 = .ok (.getfield 36, 3) := by decide +kernel
theorem dX2_addTask_98 : decode cX2_addTask 98 = .ok (.iload 6, 2) := by decide +kernel
theorem dX2_addTask_100 : decode cX2_addTask 100 = .ok (.iload 4, 2) := by decide +kernel
theorem dX2_addTask_102 : decode cX2_addTask 102 = .ok (.iastore, 1) := by decide +kernel
theorem dX2_addTask_103 : decode cX2_addTask 103 = .ok (.aload_n 0, 1) := by decide +kernel
theorem dX2_addTask_104 : decode cX2_addTask 104 = .ok (.getfield 39, 3) := by decide +kernel
theorem dX2_addTask_107 : decode cX2_addTask 107 = .ok (.iload 6, 2) := by decide +kernel
theorem dX2_addTask_109 : decode cX2_addTask 109 = .ok (.iconst 0, 1) := by decide +kernel
theorem dX2_addTask_110 : decode cX2_addTask 110 = .ok (.iastore, 1) := by decide +kernel
theorem dX2_addTask_111 : decode cX2_addTask 111 = .ok (.aload_n 0, 1) := by decide +kernel
theorem dX2_addTask_112 : decode cX2_addTask 112 = .ok (.getfield 42, 3) := by decide +kernel
theorem dX2_addTask_115 : decode cX2_addTask 115 = .ok (.iload 6, 2) := by decide +kernel
theorem dX2_addTask_117 : decode cX2_addTask 117 = .ok (.iconst 0, 1) := by decide +kernel
theorem dX2_addTask_118 : decode cX2_addTask 118 = .ok (.iastore, 1) := by decide +kernel
theorem dX2_addTask_119 : decode cX2_addTask 119 = .ok (.aload_n 0, 1) := by decide +kernel
theorem dX2_addTask_120 : decode cX2_addTask 120 = .ok (.getfield 12, 3) := by decide +kernel
theorem dX2_addTask_123 : decode cX2_addTask 123 = .ok (.iload_n 1, 1) := by decide +kernel
theorem dX2_addTask_124 : decode cX2_addTask 124 = .ok (.iload_n 2, 1) := by decide +kernel
theorem dX2_addTask_125 : decode cX2_addTask 125 = .ok (.iload 5, 2) := by decide +kernel
theorem dX2_addTask_127 : decode cX2_addTask 127 = .ok (.invokevirtual 69, 3) := by decide +kernel
theorem dX2_addTask_130 : decode cX2_addTask 130 = .ok (.aload_n 0, 1) := by decide +kernel
theorem dX2_addTask_131 : decode cX2_addTask 131 = .ok (.getfield 12, 3) := by decide +kernel
theorem dX2_addTask_134 : decode cX2_addTask 134 = .ok (.invokevirtual 73, 3) := by decide +kernel
theorem dX2_addTask_137 : decode cX2_addTask 137 = .ok (.pop, 1) := by decide +kernel
theorem dX2_addTask_138 : decode cX2_addTask 138 = .ok (.iload 6, 2) := by decide +kernel
theorem dX2_addTask_140 : decode cX2_addTask 140 = .ok (.ireturn, 1) := by decide +kernel
theorem okX2_addTask : CalOK yX2_addTask cX2_addTask 7 (some .int) 5 := ⟨wd_17, wd_383, by decide +kernel⟩
theorem ovX2_addTask : VirOK yX2_addTask := ⟨wd_381, wd_382⟩
def FX2_addTask_30 (l1 : Int32) (l2 : Int32) (l3 : Int32) (l4 : Int32) (l5 : Int32) (B : Blk) : Option (Int32 × Blk) :=
  if l2 < (1 : Int32) then
    some ((-2 : Int32), B)
  else
    if (100 : Int32) < l2 then
      some ((-2 : Int32), B)
    else
      if l3 < 0 then
        some ((-2 : Int32), B)
      else
        if (3000 : Int32) < l3 then
          some ((-2 : Int32), B)
        else
          if l4 < 0 then
            some ((-2 : Int32), B)
          else
            if l4 ≤ (100000 : Int32) then
              lt1 ((B 1) 0) fun x10 =>
              if x10 < (24 : Int32) then
                stb B 16 24 x10 l3 fun B13 =>
                stb B13 17 24 x10 l4 fun B16 =>
                stb B16 18 24 x10 (0 : Int32) fun B19 =>
                stb B19 19 24 x10 (0 : Int32) fun B22 =>
                c1 (FX4_append B22 l1 l2 l5) fun B27 =>
                c2 (FX4_schedule B27) fun r28 B30 =>
                some (x10, B30)
              else
                some ((-4 : Int32), B)
            else
              some ((-2 : Int32), B)
set_option maxRecDepth 100000 in
set_option maxHeartbeats 4000000 in
theorem wX2_addTask_30 {E : WE} {V : VT} {A : Nat → Prop} {H0 : Heap} {M : Mem} {j : Nat} (hj : j < 11) (Cx : CX E RX2 cX2_addTask 7 3 88) {r : Int32} {B' : Blk} (hret : RetI E V A H0 cX2_addTask .int r (jb M j B')) {H : Heap} {locs : List Loc} {ls : Array Slot} {l1 : Int32} {l2 : Int32} {l3 : Int32} {l4 : Int32} {l5 : Int32} {B : Blk} (hW : Wd V A H0 (jb M j B) (eS E) H locs) (hl : lv_has ls 7 [(0, .ref (vA V j 0)), (1, .int l1), (2, .int l2), (3, .int l3), (4, .int l4), (5, .int l5)]) (hF : FX2_addTask_30 l1 l2 l3 l4 l5 B = some (r, B')) : Wq E H locs 30 ls [] := by
  unfold FX2_addTask_30 at hF
  refine q_iload_n Cx dX2_addTask_30 rfl (lv_at hl 2 rfl) ?_
  refine q_iconst (v := (1 : Int32)) Cx dX2_addTask_31 (by decide) ?_
  refine q_icmp_lt (tgt := 64) Cx dX2_addTask_32 (by decide) (fun c4 => ?_) (fun c4 => ?_)
  · have hF := (if_pos c4).symm.trans hF
    refine q_bipush (v := (-2 : Int32)) Cx dX2_addTask_64 (by decide) ?_
    obtain ⟨rfl, rfl⟩ := Prod.mk.inj (Option.some.inj hF)
    exact hret _ _ _ _ dX2_addTask_66 (nI32 _) hW
  · have hF := (if_neg c4).symm.trans hF
    refine q_iload_n Cx dX2_addTask_35 rfl (lv_at hl 2 rfl) ?_
    refine q_bipush (v := (100 : Int32)) Cx dX2_addTask_36 (by decide) ?_
    refine q_icmp_gt (tgt := 64) Cx dX2_addTask_38 (by decide) (fun c5 => ?_) (fun c5 => ?_)
    · have hF := (if_pos c5).symm.trans hF
      refine q_bipush (v := (-2 : Int32)) Cx dX2_addTask_64 (by decide) ?_
      obtain ⟨rfl, rfl⟩ := Prod.mk.inj (Option.some.inj hF)
      exact hret _ _ _ _ dX2_addTask_66 (nI32 _) hW
    · have hF := (if_neg c5).symm.trans hF
      refine q_iload_n Cx dX2_addTask_41 rfl (lv_at hl 3 rfl) ?_
      refine q_if_lt (tgt := 64) Cx dX2_addTask_42 (by decide) (fun c6 => ?_) (fun c6 => ?_)
      · have hF := (if_pos c6).symm.trans hF
        refine q_bipush (v := (-2 : Int32)) Cx dX2_addTask_64 (by decide) ?_
        obtain ⟨rfl, rfl⟩ := Prod.mk.inj (Option.some.inj hF)
        exact hret _ _ _ _ dX2_addTask_66 (nI32 _) hW
      · have hF := (if_neg c6).symm.trans hF
        refine q_iload_n Cx dX2_addTask_45 rfl (lv_at hl 3 rfl) ?_
        refine q_sipush (v := (3000 : Int32)) Cx dX2_addTask_46 (by decide) ?_
        refine q_icmp_gt (tgt := 64) Cx dX2_addTask_49 (by decide) (fun c7 => ?_) (fun c7 => ?_)
        · have hF := (if_pos c7).symm.trans hF
          refine q_bipush (v := (-2 : Int32)) Cx dX2_addTask_64 (by decide) ?_
          obtain ⟨rfl, rfl⟩ := Prod.mk.inj (Option.some.inj hF)
          exact hret _ _ _ _ dX2_addTask_66 (nI32 _) hW
        · have hF := (if_neg c7).symm.trans hF
          refine q_iload Cx dX2_addTask_52 (lv_at hl 4 rfl) ?_
          refine q_if_lt (tgt := 64) Cx dX2_addTask_54 (by decide) (fun c8 => ?_) (fun c8 => ?_)
          · have hF := (if_pos c8).symm.trans hF
            refine q_bipush (v := (-2 : Int32)) Cx dX2_addTask_64 (by decide) ?_
            obtain ⟨rfl, rfl⟩ := Prod.mk.inj (Option.some.inj hF)
            exact hret _ _ _ _ dX2_addTask_66 (nI32 _) hW
          · have hF := (if_neg c8).symm.trans hF
            refine q_iload Cx dX2_addTask_57 (lv_at hl 4 rfl) ?_
            refine q_ldc (v := (100000 : Int32)) Cx dX2_addTask_59 wd_384 ?_
            refine q_icmp_le (tgt := 67) Cx dX2_addTask_61 (by decide) (fun c9 => ?_) (fun c9 => ?_)
            · have hF := (if_pos c9).symm.trans hF
              refine q_aload_n Cx dX2_addTask_67 rfl (lv_at hl 0 rfl) ?_
              refine q_get (v := .ref (vA V j 1)) Cx hW (oM hj) ic2 0 (by decide) rfl wd_113 dX2_addTask_68 ?_
              refine qb_get (v := .int ((B 1) 0)) Cx hW (oP hj) ic4 0 (by decide) rfl wd_45 dX2_addTask_71 ?_
              obtain ⟨x10, e11, hF⟩ := lt1_some hF
              refine q_topi e11 ?_
              refine q_istore (lv' := [(6, .int x10), (0, .ref (vA V j 0)), (1, .int l1), (2, .int l2), (3, .int l3), (4, .int l4), (5, .int l5)]) Cx dX2_addTask_74 hl (by decide) rfl (fun ls hl => ?_)
              refine q_iload Cx dX2_addTask_76 (lv_at hl 0 rfl) ?_
              refine q_bipush (v := (24 : Int32)) Cx dX2_addTask_78 (by decide) ?_
              refine q_icmp_lt (tgt := 86) Cx dX2_addTask_80 (by decide) (fun c12 => ?_) (fun c12 => ?_)
              · have hF := (if_pos c12).symm.trans hF
                refine q_aload_n Cx dX2_addTask_86 rfl (lv_at hl 1 rfl) ?_
                refine q_get (v := .ref (vA V j 16)) Cx hW (oM hj) ic2 4 (by decide) rfl wd_119 dX2_addTask_87 ?_
                refine q_iload Cx dX2_addTask_90 (lv_at hl 0 rfl) ?_
                refine q_iload_n Cx dX2_addTask_92 rfl (lv_at hl 4 rfl) ?_
                obtain ⟨h14, B13, e15, hF⟩ := stb_some hF
                refine qb_iast Cx hW (ai_16 hj) h14 e15 dX2_addTask_93 (fun H locs hW => ?_)
                refine q_aload_n Cx dX2_addTask_94 rfl (lv_at hl 1 rfl) ?_
                refine q_get (v := .ref (vA V j 17)) Cx hW (oM hj) ic2 5 (by decide) rfl wd_121 dX2_addTask_95 ?_
                refine q_iload Cx dX2_addTask_98 (lv_at hl 0 rfl) ?_
                refine q_iload Cx dX2_addTask_100 (lv_at hl 5 rfl) ?_
                obtain ⟨h17, B16, e18, hF⟩ := stb_some hF
                refine qb_iast Cx hW (ai_17 hj) h17 e18 dX2_addTask_102 (fun H locs hW => ?_)
                refine q_aload_n Cx dX2_addTask_103 rfl (lv_at hl 1 rfl) ?_
                refine q_get (v := .ref (vA V j 18)) Cx hW (oM hj) ic2 6 (by decide) rfl wd_123 dX2_addTask_104 ?_
                refine q_iload Cx dX2_addTask_107 (lv_at hl 0 rfl) ?_
                refine q_iconst (v := (0 : Int32)) Cx dX2_addTask_109 (by decide) ?_
                obtain ⟨h20, B19, e21, hF⟩ := stb_some hF
                refine qb_iast Cx hW (ai_18 hj) h20 e21 dX2_addTask_110 (fun H locs hW => ?_)
                refine q_aload_n Cx dX2_addTask_111 rfl (lv_at hl 1 rfl) ?_
                refine q_get (v := .ref (vA V j 19)) Cx hW (oM hj) ic2 7 (by decide) rfl wd_124 dX2_addTask_112 ?_
                refine q_iload Cx dX2_addTask_115 (lv_at hl 0 rfl) ?_
                refine q_iconst (v := (0 : Int32)) Cx dX2_addTask_117 (by decide) ?_
                obtain ⟨h23, B22, e24, hF⟩ := stb_some hF
                refine qb_iast Cx hW (ai_19 hj) h23 e24 dX2_addTask_118 (fun H locs hW => ?_)
                refine q_aload_n Cx dX2_addTask_119 rfl (lv_at hl 1 rfl) ?_
                refine q_get (v := .ref (vA V j 1)) Cx hW (oM hj) ic2 0 (by decide) rfl wd_113 dX2_addTask_120 ?_
                refine q_iload_n Cx dX2_addTask_123 rfl (lv_at hl 2 rfl) ?_
                refine q_iload_n Cx dX2_addTask_124 rfl (lv_at hl 3 rfl) ?_
                refine q_iload Cx dX2_addTask_125 (lv_at hl 6 rfl) ?_
                obtain ⟨B27, e26, hF⟩ := c1_some hF
                refine q_callV (as := [.int l1, .int l2, .int l5]) (rest := []) Cx (kX4_append hj e26) okX4_append ovX4_append wd_385 ⟨rfl, rfl, by decide, by decide⟩ hW (oP hj) ic4 rfl hl.1 (Nat.le_of_ble_eq_true rfl) rfl dX2_addTask_127 (fun H locs hW => ?_)
                refine q_aload_n Cx dX2_addTask_130 rfl (lv_at hl 1 rfl) ?_
                refine q_get (v := .ref (vA V j 1)) Cx hW (oM hj) ic2 0 (by decide) rfl wd_113 dX2_addTask_131 ?_
                obtain ⟨r28, B30, e29, hF⟩ := c2_some hF
                refine q_callI (as := []) (rest := []) Cx (kX4_schedule hj e29) okX4_schedule ovX4_schedule wd_253 ⟨rfl, rfl, by decide, by decide⟩ hW (oP hj) ic4 rfl hl.1 (Nat.le_of_ble_eq_true rfl) rfl dX2_addTask_134 (fun H locs hW => ?_)
                refine q_pop Cx dX2_addTask_137 rfl ?_
                refine q_iload Cx dX2_addTask_138 (lv_at hl 0 rfl) ?_
                obtain ⟨rfl, rfl⟩ := Prod.mk.inj (Option.some.inj hF)
                exact hret _ _ _ _ dX2_addTask_140 (nI32 _) hW
              · have hF := (if_neg c12).symm.trans hF
                refine q_bipush (v := (-4 : Int32)) Cx dX2_addTask_83 (by decide) ?_
                obtain ⟨rfl, rfl⟩ := Prod.mk.inj (Option.some.inj hF)
                exact hret _ _ _ _ dX2_addTask_85 (nI32 _) hW
            · have hF := (if_neg c9).symm.trans hF
              refine q_bipush (v := (-2 : Int32)) Cx dX2_addTask_64 (by decide) ?_
              obtain ⟨rfl, rfl⟩ := Prod.mk.inj (Option.some.inj hF)
              exact hret _ _ _ _ dX2_addTask_66 (nI32 _) hW
def FX2_addTask (B : Blk) (l1 : Int32) (l2 : Int32) (l3 : Int32) (l4 : Int32) (l5 : Int32) : Option (Int32 × Blk) :=
  if l1 < 0 then
    some ((-1 : Int32), B)
  else
    if (4 : Int32) ≤ l1 then
      some ((-1 : Int32), B)
    else
      if l5 = (-6 : Int32) then
        FX2_addTask_30 l1 l2 l3 l4 l5 B
      else
        c1 (FX4_has B l5) fun r31 =>
        if r31 = 0 then
          some ((-1 : Int32), B)
        else
          FX2_addTask_30 l1 l2 l3 l4 l5 B
set_option maxRecDepth 100000 in
set_option maxHeartbeats 4000000 in
theorem wX2_addTask {E : WE} {V : VT} {A : Nat → Prop} {H0 : Heap} {M : Mem} {j : Nat} (hj : j < 11) (Cx : CX E RX2 cX2_addTask 7 3 88) {r : Int32} {B' : Blk} (hret : RetI E V A H0 cX2_addTask .int r (jb M j B')) {H : Heap} {locs : List Loc} {ls : Array Slot} {l1 : Int32} {l2 : Int32} {l3 : Int32} {l4 : Int32} {l5 : Int32} {B : Blk} (hW : Wd V A H0 (jb M j B) (eS E) H locs) (hl : lv_has ls 7 [(0, .ref (vA V j 0)), (1, .int l1), (2, .int l2), (3, .int l3), (4, .int l4), (5, .int l5)]) (hF : FX2_addTask B l1 l2 l3 l4 l5 = some (r, B')) : Wq E H locs 0 ls [] := by
  unfold FX2_addTask at hF
  refine q_iload_n Cx dX2_addTask_0 rfl (lv_at hl 1 rfl) ?_
  refine q_if_lt (tgt := 28) Cx dX2_addTask_1 (by decide) (fun c1 => ?_) (fun c1 => ?_)
  · have hF := (if_pos c1).symm.trans hF
    refine q_iconst (v := (-1 : Int32)) Cx dX2_addTask_28 (by decide) ?_
    obtain ⟨rfl, rfl⟩ := Prod.mk.inj (Option.some.inj hF)
    exact hret _ _ _ _ dX2_addTask_29 (nI32 _) hW
  · have hF := (if_neg c1).symm.trans hF
    refine q_iload_n Cx dX2_addTask_4 rfl (lv_at hl 1 rfl) ?_
    refine q_iconst (v := (4 : Int32)) Cx dX2_addTask_5 (by decide) ?_
    refine q_icmp_ge (tgt := 28) Cx dX2_addTask_6 (by decide) (fun c2 => ?_) (fun c2 => ?_)
    · have hF := (if_pos c2).symm.trans hF
      refine q_iconst (v := (-1 : Int32)) Cx dX2_addTask_28 (by decide) ?_
      obtain ⟨rfl, rfl⟩ := Prod.mk.inj (Option.some.inj hF)
      exact hret _ _ _ _ dX2_addTask_29 (nI32 _) hW
    · have hF := (if_neg c2).symm.trans hF
      refine q_iload Cx dX2_addTask_9 (lv_at hl 5 rfl) ?_
      refine q_bipush (v := (-6 : Int32)) Cx dX2_addTask_11 (by decide) ?_
      refine q_icmp_eq (tgt := 30) Cx dX2_addTask_13 (by decide) (fun c3 => ?_) (fun c3 => ?_)
      · have hF := (if_pos c3).symm.trans hF
        exact wX2_addTask_30 hj Cx hret hW (lv_sub hl [0, 1, 2, 3, 4, 5] rfl) hF
      · have hF := (if_neg c3).symm.trans hF
        refine q_aload_n Cx dX2_addTask_16 rfl (lv_at hl 0 rfl) ?_
        refine q_get (v := .ref (vA V j 1)) Cx hW (oM hj) ic2 0 (by decide) rfl wd_113 dX2_addTask_17 ?_
        refine q_iload Cx dX2_addTask_20 (lv_at hl 5 rfl) ?_
        obtain ⟨r31, e32, hF⟩ := c1_some hF
        refine q_callI (as := [.int l5]) (rest := []) Cx (kX4_has hj e32) okX4_has ovX4_has wd_249 ⟨rfl, rfl, by decide, by decide⟩ hW (oP hj) ic4 rfl hl.1 (Nat.le_of_ble_eq_true rfl) rfl dX2_addTask_22 (fun H locs hW => ?_)
        refine q_if_ne (tgt := 30) Cx dX2_addTask_25 (by decide) (fun c33 => ?_) (fun c33 => ?_)
        · have hF := (if_neg c33).symm.trans hF
          exact wX2_addTask_30 hj Cx hret hW (lv_sub hl [0, 1, 2, 3, 4, 5] rfl) hF
        · have hF := (if_pos c33).symm.trans hF
          refine q_iconst (v := (-1 : Int32)) Cx dX2_addTask_28 (by decide) ?_
          obtain ⟨rfl, rfl⟩ := Prod.mk.inj (Option.some.inj hF)
          exact hret _ _ _ _ dX2_addTask_29 (nI32 _) hW
set_option maxRecDepth 100000 in
theorem kX2_addTask {l : Launch} {V : VT} {M : Mem} {j : Nat} (hj : j < 11) {B : Blk} {l1 : Int32} {l2 : Int32} {l3 : Int32} {l4 : Int32} {l5 : Int32} {r : Int32} {B' : Blk} (hF : FX2_addTask B l1 l2 l3 l4 l5 = some (r, B')) : MetI l V yX2_addTask cX2_addTask 7 .int ({ frames := 3, cells := 0, slots := 0, locals := 88 } : Room) [.ref (vA V j 0), .int l1, .int l2, .int l3, .int l4, .int l5] r (jb M j B) (jb M j B') := metI_of (by decide) (Nat.le_of_ble_eq_true rfl) (fun E H0 _ Cx hret H locs ls hW hl => wX2_addTask hj Cx hret hW hl hF)
theorem dX2_changeDuration_0 : decode cX2_changeDuration 0 = .ok (.aload_n 0, 1) := by decide +kernel
theorem dX2_changeDuration_1 : decode cX2_changeDuration 1 = .ok (.getfield 12, 3) := by decide +kernel
theorem dX2_changeDuration_4 : decode cX2_changeDuration 4 = .ok (.iload_n 1, 1) := by decide +kernel
theorem dX2_changeDuration_5 : decode cX2_changeDuration 5 = .ok (.invokevirtual 61, 3) := by decide +kernel
theorem dX2_changeDuration_8 : decode cX2_changeDuration 8 = .ok (.ifCond .ne 5, 3) := by decide +kernel
theorem dX2_changeDuration_11 : decode cX2_changeDuration 11 = .ok (.iconst (-1), 1) := by decide +kernel
theorem dX2_changeDuration_12 : decode cX2_changeDuration 12 = .ok (.ireturn, 1) := by decide +kernel
theorem dX2_changeDuration_13 : decode cX2_changeDuration 13 = .ok (.iload_n 2, 1) := by decide +kernel
theorem dX2_changeDuration_14 : decode cX2_changeDuration 14 = .ok (.iconst 1, 1) := by decide +kernel
theorem dX2_changeDuration_15 : decode cX2_changeDuration 15 = .ok (.if_icmp .lt 9, 3) := by decide +kernel
theorem dX2_changeDuration_18 : decode cX2_changeDuration 18 = .ok (.iload_n 2, 1) := by decide +kernel
theorem dX2_changeDuration_19 : decode cX2_changeDuration 19 = .ok (.bipush 100, 2) := by decide +kernel
theorem dX2_changeDuration_21 : decode cX2_changeDuration 21 = .ok (.if_icmp .le 6, 3) := by decide +kernel
theorem dX2_changeDuration_24 : decode cX2_changeDuration 24 = .ok (.bipush (-2), 2) := by decide +kernel
theorem dX2_changeDuration_26 : decode cX2_changeDuration 26 = .ok (.ireturn, 1) := by decide +kernel
theorem dX2_changeDuration_27 : decode cX2_changeDuration 27 = .ok (.aload_n 0, 1) := by decide +kernel
theorem dX2_changeDuration_28 : decode cX2_changeDuration 28 = .ok (.getfield 12, 3) := by decide +kernel
theorem dX2_changeDuration_31 : decode cX2_changeDuration 31 = .ok (.getfield 77, 3) := by decide +kernel
theorem dX2_changeDuration_34 : decode cX2_changeDuration 34 = .ok (.iload_n 1, 1) := by decide +kernel
theorem dX2_changeDuration_35 : decode cX2_changeDuration 35 = .ok (.iaload, 1) := by decide +kernel
theorem dX2_changeDuration_36 : decode cX2_changeDuration 36 = .ok (.istore_n 3, 1) := by decide +kernel
theorem dX2_changeDuration_37 : decode cX2_changeDuration 37 = .ok (.aload_n 0, 1) := by decide +kernel
theorem dX2_changeDuration_38 : decode cX2_changeDuration 38 = .ok (.getfield 12, 3) := by decide +kernel
theorem dX2_changeDuration_41 : decode cX2_changeDuration 41 = .ok (.getfield 77, 3) := by decide +kernel
theorem dX2_changeDuration_44 : decode cX2_changeDuration 44 = .ok (.iload_n 1, 1) := by decide +kernel
theorem dX2_changeDuration_45 : decode cX2_changeDuration 45 = .ok (.iload_n 2, 1) := by decide +kernel
theorem dX2_changeDuration_46 : decode cX2_changeDuration 46 = .ok (.iastore, 1) := by decide +kernel
theorem dX2_changeDuration_47 : decode cX2_changeDuration 47 = .ok (.aload_n 0, 1) := by decide +kernel
theorem dX2_changeDuration_48 : decode cX2_changeDuration 48 = .ok (.getfield 12, 3) := by decide +kernel
theorem dX2_changeDuration_51 : decode cX2_changeDuration 51 = .ok (.invokevirtual 73, 3) := by decide +kernel
theorem dX2_changeDuration_54 : decode cX2_changeDuration 54 = .ok (.pop, 1) := by decide +kernel
theorem dX2_changeDuration_55 : decode cX2_changeDuration 55 = .ok (.iload_n 3, 1) := by decide +kernel
theorem dX2_changeDuration_56 : decode cX2_changeDuration 56 = .ok (.ireturn, 1) := by decide +kernel
theorem okX2_changeDuration : CalOK yX2_changeDuration cX2_changeDuration 4 (some .int) 2 := ⟨wd_17, wd_248, by decide +kernel⟩
theorem ovX2_changeDuration : VirOK yX2_changeDuration := ⟨wd_246, wd_247⟩
def FX2_changeDuration (B : Blk) (l1 : Int32) (l2 : Int32) : Option (Int32 × Blk) :=
  c1 (FX4_has B l1) fun r1 =>
  if r1 = 0 then
    some ((-1 : Int32), B)
  else
    if l2 < (1 : Int32) then
      some ((-2 : Int32), B)
    else
      if l2 ≤ (100 : Int32) then
        ld (B 4) 24 l1 fun v6 =>
        stb B 4 24 l1 l2 fun B9 =>
        c2 (FX4_schedule B9) fun r12 B14 =>
        some (v6, B14)
      else
        some ((-2 : Int32), B)
set_option maxRecDepth 100000 in
set_option maxHeartbeats 4000000 in
theorem wX2_changeDuration {E : WE} {V : VT} {A : Nat → Prop} {H0 : Heap} {M : Mem} {j : Nat} (hj : j < 11) (Cx : CX E RX2 cX2_changeDuration 4 3 88) {r : Int32} {B' : Blk} (hret : RetI E V A H0 cX2_changeDuration .int r (jb M j B')) {H : Heap} {locs : List Loc} {ls : Array Slot} {l1 : Int32} {l2 : Int32} {B : Blk} (hW : Wd V A H0 (jb M j B) (eS E) H locs) (hl : lv_has ls 4 [(0, .ref (vA V j 0)), (1, .int l1), (2, .int l2)]) (hF : FX2_changeDuration B l1 l2 = some (r, B')) : Wq E H locs 0 ls [] := by
  unfold FX2_changeDuration at hF
  refine q_aload_n Cx dX2_changeDuration_0 rfl (lv_at hl 0 rfl) ?_
  refine q_get (v := .ref (vA V j 1)) Cx hW (oM hj) ic2 0 (by decide) rfl wd_113 dX2_changeDuration_1 ?_
  refine q_iload_n Cx dX2_changeDuration_4 rfl (lv_at hl 1 rfl) ?_
  obtain ⟨r1, e2, hF⟩ := c1_some hF
  refine q_callI (as := [.int l1]) (rest := []) Cx (kX4_has hj e2) okX4_has ovX4_has wd_249 ⟨rfl, rfl, by decide, by decide⟩ hW (oP hj) ic4 rfl hl.1 (Nat.le_of_ble_eq_true rfl) rfl dX2_changeDuration_5 (fun H locs hW => ?_)
  refine q_if_ne (tgt := 13) Cx dX2_changeDuration_8 (by decide) (fun c3 => ?_) (fun c3 => ?_)
  · have hF := (if_neg c3).symm.trans hF
    refine q_iload_n Cx dX2_changeDuration_13 rfl (lv_at hl 2 rfl) ?_
    refine q_iconst (v := (1 : Int32)) Cx dX2_changeDuration_14 (by decide) ?_
    refine q_icmp_lt (tgt := 24) Cx dX2_changeDuration_15 (by decide) (fun c4 => ?_) (fun c4 => ?_)
    · have hF := (if_pos c4).symm.trans hF
      refine q_bipush (v := (-2 : Int32)) Cx dX2_changeDuration_24 (by decide) ?_
      obtain ⟨rfl, rfl⟩ := Prod.mk.inj (Option.some.inj hF)
      exact hret _ _ _ _ dX2_changeDuration_26 (nI32 _) hW
    · have hF := (if_neg c4).symm.trans hF
      refine q_iload_n Cx dX2_changeDuration_18 rfl (lv_at hl 2 rfl) ?_
      refine q_bipush (v := (100 : Int32)) Cx dX2_changeDuration_19 (by decide) ?_
      refine q_icmp_le (tgt := 27) Cx dX2_changeDuration_21 (by decide) (fun c5 => ?_) (fun c5 => ?_)
      · have hF := (if_pos c5).symm.trans hF
        refine q_aload_n Cx dX2_changeDuration_27 rfl (lv_at hl 0 rfl) ?_
        refine q_get (v := .ref (vA V j 1)) Cx hW (oM hj) ic2 0 (by decide) rfl wd_113 dX2_changeDuration_28 ?_
        refine q_get (v := .ref (vA V j 4)) Cx hW (oP hj) ic4 2 (by decide) rfl wd_49 dX2_changeDuration_31 ?_
        refine q_iload_n Cx dX2_changeDuration_34 rfl (lv_at hl 1 rfl) ?_
        obtain ⟨h7, v6, e8, hF⟩ := ld_some hF
        refine qb_iald Cx hW (ai_4 hj) h7 e8 dX2_changeDuration_35 ?_
        refine q_istore_n (lv' := [(3, .int v6), (0, .ref (vA V j 0)), (1, .int l1), (2, .int l2)]) Cx dX2_changeDuration_36 rfl hl (by decide) rfl (fun ls hl => ?_)
        refine q_aload_n Cx dX2_changeDuration_37 rfl (lv_at hl 1 rfl) ?_
        refine q_get (v := .ref (vA V j 1)) Cx hW (oM hj) ic2 0 (by decide) rfl wd_113 dX2_changeDuration_38 ?_
        refine q_get (v := .ref (vA V j 4)) Cx hW (oP hj) ic4 2 (by decide) rfl wd_49 dX2_changeDuration_41 ?_
        refine q_iload_n Cx dX2_changeDuration_44 rfl (lv_at hl 2 rfl) ?_
        refine q_iload_n Cx dX2_changeDuration_45 rfl (lv_at hl 3 rfl) ?_
        obtain ⟨h10, B9, e11, hF⟩ := stb_some hF
        refine qb_iast Cx hW (ai_4 hj) h10 e11 dX2_changeDuration_46 (fun H locs hW => ?_)
        refine q_aload_n Cx dX2_changeDuration_47 rfl (lv_at hl 1 rfl) ?_
        refine q_get (v := .ref (vA V j 1)) Cx hW (oM hj) ic2 0 (by decide) rfl wd_113 dX2_changeDuration_48 ?_
        obtain ⟨r12, B14, e13, hF⟩ := c2_some hF
        refine q_callI (as := []) (rest := []) Cx (kX4_schedule hj e13) okX4_schedule ovX4_schedule wd_253 ⟨rfl, rfl, by decide, by decide⟩ hW (oP hj) ic4 rfl hl.1 (Nat.le_of_ble_eq_true rfl) rfl dX2_changeDuration_51 (fun H locs hW => ?_)
        refine q_pop Cx dX2_changeDuration_54 rfl ?_
        refine q_iload_n Cx dX2_changeDuration_55 rfl (lv_at hl 0 rfl) ?_
        obtain ⟨rfl, rfl⟩ := Prod.mk.inj (Option.some.inj hF)
        exact hret _ _ _ _ dX2_changeDuration_56 (nI32 _) hW
      · have hF := (if_neg c5).symm.trans hF
        refine q_bipush (v := (-2 : Int32)) Cx dX2_changeDuration_24 (by decide) ?_
        obtain ⟨rfl, rfl⟩ := Prod.mk.inj (Option.some.inj hF)
        exact hret _ _ _ _ dX2_changeDuration_26 (nI32 _) hW
  · have hF := (if_pos c3).symm.trans hF
    refine q_iconst (v := (-1 : Int32)) Cx dX2_changeDuration_11 (by decide) ?_
    obtain ⟨rfl, rfl⟩ := Prod.mk.inj (Option.some.inj hF)
    exact hret _ _ _ _ dX2_changeDuration_12 (nI32 _) hW
set_option maxRecDepth 100000 in
theorem kX2_changeDuration {l : Launch} {V : VT} {M : Mem} {j : Nat} (hj : j < 11) {B : Blk} {l1 : Int32} {l2 : Int32} {r : Int32} {B' : Blk} (hF : FX2_changeDuration B l1 l2 = some (r, B')) : MetI l V yX2_changeDuration cX2_changeDuration 4 .int ({ frames := 3, cells := 0, slots := 0, locals := 88 } : Room) [.ref (vA V j 0), .int l1, .int l2] r (jb M j B) (jb M j B') := metI_of (by decide) (Nat.le_of_ble_eq_true rfl) (fun E H0 _ Cx hret H locs ls hW hl => wX2_changeDuration hj Cx hret hW hl hF)
theorem dX2_moveTask_0 : decode cX2_moveTask 0 = .ok (.aload_n 0, 1) := by decide +kernel
theorem dX2_moveTask_1 : decode cX2_moveTask 1 = .ok (.getfield 12, 3) := by decide +kernel
theorem dX2_moveTask_4 : decode cX2_moveTask 4 = .ok (.iload_n 1, 1) := by decide +kernel
theorem dX2_moveTask_5 : decode cX2_moveTask 5 = .ok (.invokevirtual 61, 3) := by decide +kernel
theorem dX2_moveTask_8 : decode cX2_moveTask 8 = .ok (.ifCond .eq 28, 3) := by decide +kernel
theorem dX2_moveTask_11 : decode cX2_moveTask 11 = .ok (.iload_n 2, 1) := by decide +kernel
theorem dX2_moveTask_12 : decode cX2_moveTask 12 = .ok (.ifCond .lt 24, 3) := by decide +kernel
theorem dX2_moveTask_15 : decode cX2_moveTask 15 = .ok (.iload_n 2, 1) := by decide +kernel
theorem dX2_moveTask_16 : decode cX2_moveTask 16 = .ok (.aload_n 0, 1) := by decide +kernel
theorem dX2_moveTask_17 : decode cX2_moveTask 17 = .ok (.getfield 12, 3) := by decide +kernel
theorem dX2_moveTask_20 : decode cX2_moveTask 20 = .ok (.getfield 80, 3) := by decide +kernel
theorem dX2_moveTask_23 : decode cX2_moveTask 23 = .ok (.aload_n 0, 1) := by decide +kernel
theorem dX2_moveTask_24 : decode cX2_moveTask 24 = .ok (.getfield 12, 3) := by decide +kernel
theorem dX2_moveTask_27 : decode cX2_moveTask 27 = .ok (.getfield 83, 3) := by decide +kernel
theorem dX2_moveTask_30 : decode cX2_moveTask 30 = .ok (.iload_n 1, 1) := by decide +kernel
theorem dX2_moveTask_31 : decode cX2_moveTask 31 = .ok (.iaload, 1) := by decide +kernel
theorem dX2_moveTask_32 : decode cX2_moveTask 32 = .ok (.iaload, 1) := by decide +kernel
theorem dX2_moveTask_33 : decode cX2_moveTask 33 = .ok (.if_icmp .lt 5, 3) := by decide +kernel
theorem dX2_moveTask_36 : decode cX2_moveTask 36 = .ok (.iconst (-1), 1) := by decide +kernel
theorem dX2_moveTask_37 : decode cX2_moveTask 37 = .ok (.ireturn, 1) := by decide +kernel
theorem dX2_moveTask_38 : decode cX2_moveTask 38 = .ok (.aload_n 0, 1) := by decide +kernel
theorem dX2_moveTask_39 : decode cX2_moveTask 39 = .ok (.getfield 12, 3) := by decide +kernel
theorem dX2_moveTask_42 : decode cX2_moveTask 42 = .ok (.iload_n 1, 1) := by decide +kernel
theorem dX2_moveTask_43 : decode cX2_moveTask 43 = .ok (.invokevirtual 86, 3) := by decide +kernel
theorem dX2_moveTask_46 : decode cX2_moveTask 46 = .ok (.istore_n 3, 1) := by decide +kernel
theorem dX2_moveTask_47 : decode cX2_moveTask 47 = .ok (.aload_n 0, 1) := by decide +kernel
theorem dX2_moveTask_48 : decode cX2_moveTask 48 = .ok (.getfield 12, 3) := by decide +kernel
theorem dX2_moveTask_51 : decode cX2_moveTask 51 = .ok (.iload_n 1, 1) := by decide +kernel
theorem dX2_moveTask_52 : decode cX2_moveTask 52 = .ok (.iload_n 2, 1) := by decide +kernel
theorem dX2_moveTask_53 : decode cX2_moveTask 53 = .ok (.invokevirtual 90, 3) := by decide +kernel
theorem dX2_moveTask_56 : decode cX2_moveTask 56 = .ok (.aload_n 0, 1) := by decide +kernel
theorem dX2_moveTask_57 : decode cX2_moveTask 57 = .ok (.getfield 12, 3) := by decide +kernel
theorem dX2_moveTask_60 : decode cX2_moveTask 60 = .ok (.invokevirtual 73, 3) := by decide +kernel
theorem dX2_moveTask_63 : decode cX2_moveTask 63 = .ok (.ifCond .ne 23, 3) := by decide +kernel
theorem dX2_moveTask_66 : decode cX2_moveTask 66 = .ok (.aload_n 0, 1) := by decide +kernel
theorem dX2_moveTask_67 : decode cX2_moveTask 67 = .ok (.getfield 12, 3) := by decide +kernel
theorem dX2_moveTask_70 : decode cX2_moveTask 70 = .ok (.iload_n 1, 1) := by decide +kernel
theorem dX2_moveTask_71 : decode cX2_moveTask 71 = .ok (.iload_n 3, 1) := by decide +kernel
theorem dX2_moveTask_72 : decode cX2_moveTask 72 = .ok (.invokevirtual 90, 3) := by decide +kernel
theorem dX2_moveTask_75 : decode cX2_moveTask 75 = .ok (.aload_n 0, 1) := by decide +kernel
theorem dX2_moveTask_76 : decode cX2_moveTask 76 = .ok (.getfield 12, 3) := by decide +kernel
theorem dX2_moveTask_79 : decode cX2_moveTask 79 = .ok (.invokevirtual 73, 3) := by decide +kernel
theorem dX2_moveTask_82 : decode cX2_moveTask 82 = .ok (.pop, 1) := by decide +kernel
theorem dX2_moveTask_83 : decode cX2_moveTask 83 = .ok (.bipush (-5), 2) := by decide +kernel
theorem dX2_moveTask_85 : decode cX2_moveTask 85 = .ok (.ireturn, 1) := by decide +kernel
theorem dX2_moveTask_86 : decode cX2_moveTask 86 = .ok (.iload_n 3, 1) := by decide +kernel
theorem dX2_moveTask_87 : decode cX2_moveTask 87 = .ok (.ireturn, 1) := by decide +kernel
theorem okX2_moveTask : CalOK yX2_moveTask cX2_moveTask 4 (some .int) 2 := ⟨wd_17, wd_461, by decide +kernel⟩
theorem ovX2_moveTask : VirOK yX2_moveTask := ⟨wd_459, wd_460⟩
def FX2_moveTask (B : Blk) (l1 : Int32) (l2 : Int32) : Option (Int32 × Blk) :=
  c1 (FX4_has B l1) fun r1 =>
  if r1 = 0 then
    some ((-1 : Int32), B)
  else
    if l2 < 0 then
      some ((-1 : Int32), B)
    else
      ld (B 3) 24 l1 fun v5 =>
      ld (B 9) 4 v5 fun v8 =>
      if l2 < v8 then
        c1 (FX4_placeOf B l1) fun r12 =>
        c1 (FX4_shift B l1 l2) fun B16 =>
        c2 (FX4_schedule B16) fun r17 B19 =>
        if r17 = 0 then
          c1 (FX4_shift B19 l1 r12) fun B23 =>
          c2 (FX4_schedule B23) fun r24 B26 =>
          some ((-5 : Int32), B26)
        else
          some (r12, B19)
      else
        some ((-1 : Int32), B)
set_option maxRecDepth 100000 in
set_option maxHeartbeats 4000000 in
theorem wX2_moveTask {E : WE} {V : VT} {A : Nat → Prop} {H0 : Heap} {M : Mem} {j : Nat} (hj : j < 11) (Cx : CX E RX2 cX2_moveTask 4 3 88) {r : Int32} {B' : Blk} (hret : RetI E V A H0 cX2_moveTask .int r (jb M j B')) {H : Heap} {locs : List Loc} {ls : Array Slot} {l1 : Int32} {l2 : Int32} {B : Blk} (hW : Wd V A H0 (jb M j B) (eS E) H locs) (hl : lv_has ls 4 [(0, .ref (vA V j 0)), (1, .int l1), (2, .int l2)]) (hF : FX2_moveTask B l1 l2 = some (r, B')) : Wq E H locs 0 ls [] := by
  unfold FX2_moveTask at hF
  refine q_aload_n Cx dX2_moveTask_0 rfl (lv_at hl 0 rfl) ?_
  refine q_get (v := .ref (vA V j 1)) Cx hW (oM hj) ic2 0 (by decide) rfl wd_113 dX2_moveTask_1 ?_
  refine q_iload_n Cx dX2_moveTask_4 rfl (lv_at hl 1 rfl) ?_
  obtain ⟨r1, e2, hF⟩ := c1_some hF
  refine q_callI (as := [.int l1]) (rest := []) Cx (kX4_has hj e2) okX4_has ovX4_has wd_249 ⟨rfl, rfl, by decide, by decide⟩ hW (oP hj) ic4 rfl hl.1 (Nat.le_of_ble_eq_true rfl) rfl dX2_moveTask_5 (fun H locs hW => ?_)
  refine q_if_eq (tgt := 36) Cx dX2_moveTask_8 (by decide) (fun c3 => ?_) (fun c3 => ?_)
  · have hF := (if_pos c3).symm.trans hF
    refine q_iconst (v := (-1 : Int32)) Cx dX2_moveTask_36 (by decide) ?_
    obtain ⟨rfl, rfl⟩ := Prod.mk.inj (Option.some.inj hF)
    exact hret _ _ _ _ dX2_moveTask_37 (nI32 _) hW
  · have hF := (if_neg c3).symm.trans hF
    refine q_iload_n Cx dX2_moveTask_11 rfl (lv_at hl 2 rfl) ?_
    refine q_if_lt (tgt := 36) Cx dX2_moveTask_12 (by decide) (fun c4 => ?_) (fun c4 => ?_)
    · have hF := (if_pos c4).symm.trans hF
      refine q_iconst (v := (-1 : Int32)) Cx dX2_moveTask_36 (by decide) ?_
      obtain ⟨rfl, rfl⟩ := Prod.mk.inj (Option.some.inj hF)
      exact hret _ _ _ _ dX2_moveTask_37 (nI32 _) hW
    · have hF := (if_neg c4).symm.trans hF
      refine q_iload_n Cx dX2_moveTask_15 rfl (lv_at hl 2 rfl) ?_
      refine q_aload_n Cx dX2_moveTask_16 rfl (lv_at hl 0 rfl) ?_
      refine q_get (v := .ref (vA V j 1)) Cx hW (oM hj) ic2 0 (by decide) rfl wd_113 dX2_moveTask_17 ?_
      refine q_get (v := .ref (vA V j 9)) Cx hW (oP hj) ic4 7 (by decide) rfl wd_58 dX2_moveTask_20 ?_
      refine q_aload_n Cx dX2_moveTask_23 rfl (lv_at hl 0 rfl) ?_
      refine q_get (v := .ref (vA V j 1)) Cx hW (oM hj) ic2 0 (by decide) rfl wd_113 dX2_moveTask_24 ?_
      refine q_get (v := .ref (vA V j 3)) Cx hW (oP hj) ic4 1 (by decide) rfl wd_47 dX2_moveTask_27 ?_
      refine q_iload_n Cx dX2_moveTask_30 rfl (lv_at hl 1 rfl) ?_
      obtain ⟨h6, v5, e7, hF⟩ := ld_some hF
      refine qb_iald Cx hW (ai_3 hj) h6 e7 dX2_moveTask_31 ?_
      obtain ⟨h9, v8, e10, hF⟩ := ld_some hF
      refine qb_iald Cx hW (ai_9 hj) h9 e10 dX2_moveTask_32 ?_
      refine q_icmp_lt (tgt := 38) Cx dX2_moveTask_33 (by decide) (fun c11 => ?_) (fun c11 => ?_)
      · have hF := (if_pos c11).symm.trans hF
        refine q_aload_n Cx dX2_moveTask_38 rfl (lv_at hl 0 rfl) ?_
        refine q_get (v := .ref (vA V j 1)) Cx hW (oM hj) ic2 0 (by decide) rfl wd_113 dX2_moveTask_39 ?_
        refine q_iload_n Cx dX2_moveTask_42 rfl (lv_at hl 1 rfl) ?_
        obtain ⟨r12, e13, hF⟩ := c1_some hF
        refine q_callI (as := [.int l1]) (rest := []) Cx (kX4_placeOf hj e13) okX4_placeOf ovX4_placeOf wd_281 ⟨rfl, rfl, by decide, by decide⟩ hW (oP hj) ic4 rfl hl.1 (Nat.le_of_ble_eq_true rfl) rfl dX2_moveTask_43 (fun H locs hW => ?_)
        refine q_istore_n (lv' := [(3, .int r12), (0, .ref (vA V j 0)), (1, .int l1), (2, .int l2)]) Cx dX2_moveTask_46 rfl hl (by decide) rfl (fun ls hl => ?_)
        refine q_aload_n Cx dX2_moveTask_47 rfl (lv_at hl 1 rfl) ?_
        refine q_get (v := .ref (vA V j 1)) Cx hW (oM hj) ic2 0 (by decide) rfl wd_113 dX2_moveTask_48 ?_
        refine q_iload_n Cx dX2_moveTask_51 rfl (lv_at hl 2 rfl) ?_
        refine q_iload_n Cx dX2_moveTask_52 rfl (lv_at hl 3 rfl) ?_
        obtain ⟨B16, e15, hF⟩ := c1_some hF
        refine q_callV (as := [.int l1, .int l2]) (rest := []) Cx (kX4_shift hj e15) okX4_shift ovX4_shift wd_462 ⟨rfl, rfl, by decide, by decide⟩ hW (oP hj) ic4 rfl hl.1 (Nat.le_of_ble_eq_true rfl) rfl dX2_moveTask_53 (fun H locs hW => ?_)
        refine q_aload_n Cx dX2_moveTask_56 rfl (lv_at hl 1 rfl) ?_
        refine q_get (v := .ref (vA V j 1)) Cx hW (oM hj) ic2 0 (by decide) rfl wd_113 dX2_moveTask_57 ?_
        obtain ⟨r17, B19, e18, hF⟩ := c2_some hF
        refine q_callI (as := []) (rest := []) Cx (kX4_schedule hj e18) okX4_schedule ovX4_schedule wd_253 ⟨rfl, rfl, by decide, by decide⟩ hW (oP hj) ic4 rfl hl.1 (Nat.le_of_ble_eq_true rfl) rfl dX2_moveTask_60 (fun H locs hW => ?_)
        refine q_if_ne (tgt := 86) Cx dX2_moveTask_63 (by decide) (fun c20 => ?_) (fun c20 => ?_)
        · have hF := (if_neg c20).symm.trans hF
          refine q_iload_n Cx dX2_moveTask_86 rfl (lv_at hl 0 rfl) ?_
          obtain ⟨rfl, rfl⟩ := Prod.mk.inj (Option.some.inj hF)
          exact hret _ _ _ _ dX2_moveTask_87 (nI32 _) hW
        · have hF := (if_pos c20).symm.trans hF
          refine q_aload_n Cx dX2_moveTask_66 rfl (lv_at hl 1 rfl) ?_
          refine q_get (v := .ref (vA V j 1)) Cx hW (oM hj) ic2 0 (by decide) rfl wd_113 dX2_moveTask_67 ?_
          refine q_iload_n Cx dX2_moveTask_70 rfl (lv_at hl 2 rfl) ?_
          refine q_iload_n Cx dX2_moveTask_71 rfl (lv_at hl 0 rfl) ?_
          obtain ⟨B23, e22, hF⟩ := c1_some hF
          refine q_callV (as := [.int l1, .int r12]) (rest := []) Cx (kX4_shift hj e22) okX4_shift ovX4_shift wd_462 ⟨rfl, rfl, by decide, by decide⟩ hW (oP hj) ic4 rfl hl.1 (Nat.le_of_ble_eq_true rfl) rfl dX2_moveTask_72 (fun H locs hW => ?_)
          refine q_aload_n Cx dX2_moveTask_75 rfl (lv_at hl 1 rfl) ?_
          refine q_get (v := .ref (vA V j 1)) Cx hW (oM hj) ic2 0 (by decide) rfl wd_113 dX2_moveTask_76 ?_
          obtain ⟨r24, B26, e25, hF⟩ := c2_some hF
          refine q_callI (as := []) (rest := []) Cx (kX4_schedule hj e25) okX4_schedule ovX4_schedule wd_253 ⟨rfl, rfl, by decide, by decide⟩ hW (oP hj) ic4 rfl hl.1 (Nat.le_of_ble_eq_true rfl) rfl dX2_moveTask_79 (fun H locs hW => ?_)
          refine q_pop Cx dX2_moveTask_82 rfl ?_
          refine q_bipush (v := (-5 : Int32)) Cx dX2_moveTask_83 (by decide) ?_
          obtain ⟨rfl, rfl⟩ := Prod.mk.inj (Option.some.inj hF)
          exact hret _ _ _ _ dX2_moveTask_85 (nI32 _) hW
      · have hF := (if_neg c11).symm.trans hF
        refine q_iconst (v := (-1 : Int32)) Cx dX2_moveTask_36 (by decide) ?_
        obtain ⟨rfl, rfl⟩ := Prod.mk.inj (Option.some.inj hF)
        exact hret _ _ _ _ dX2_moveTask_37 (nI32 _) hW
set_option maxRecDepth 100000 in
theorem kX2_moveTask {l : Launch} {V : VT} {M : Mem} {j : Nat} (hj : j < 11) {B : Blk} {l1 : Int32} {l2 : Int32} {r : Int32} {B' : Blk} (hF : FX2_moveTask B l1 l2 = some (r, B')) : MetI l V yX2_moveTask cX2_moveTask 4 .int ({ frames := 3, cells := 0, slots := 0, locals := 88 } : Room) [.ref (vA V j 0), .int l1, .int l2] r (jb M j B) (jb M j B') := metI_of (by decide) (Nat.le_of_ble_eq_true rfl) (fun E H0 _ Cx hret H locs ls hW hl => wX2_moveTask hj Cx hret hW hl hF)
theorem dX2_setOffer_0 : decode cX2_setOffer 0 = .ok (.aload_n 0, 1) := by decide +kernel
theorem dX2_setOffer_1 : decode cX2_setOffer 1 = .ok (.getfield 39, 3) := by decide +kernel
theorem dX2_setOffer_4 : decode cX2_setOffer 4 = .ok (.iload_n 1, 1) := by decide +kernel
theorem dX2_setOffer_5 : decode cX2_setOffer 5 = .ok (.iload_n 2, 1) := by decide +kernel
theorem dX2_setOffer_6 : decode cX2_setOffer 6 = .ok (.iastore, 1) := by decide +kernel
theorem dX2_setOffer_7 : decode cX2_setOffer 7 = .ok (.aload_n 0, 1) := by decide +kernel
theorem dX2_setOffer_8 : decode cX2_setOffer 8 = .ok (.getfield 42, 3) := by decide +kernel
theorem dX2_setOffer_11 : decode cX2_setOffer 11 = .ok (.iload_n 1, 1) := by decide +kernel
theorem dX2_setOffer_12 : decode cX2_setOffer 12 = .ok (.iload_n 2, 1) := by decide +kernel
theorem dX2_setOffer_13 : decode cX2_setOffer 13 = .ok (.ifCond .le 7, 3) := by decide +kernel
theorem dX2_setOffer_16 : decode cX2_setOffer 16 = .ok (.iload_n 3, 1) := by decide +kernel
theorem dX2_setOffer_17 : decode cX2_setOffer 17 = .ok (.goto 4, 3) := by decide +kernel
theorem dX2_setOffer_20 : decode cX2_setOffer 20 = .ok (.iconst 0, 1) := by decide +kernel
theorem dX2_setOffer_21 : decode cX2_setOffer 21 = .ok (.iastore, 1) := by decide +kernel
theorem dX2_setOffer_22 : decode cX2_setOffer 22 = .ok (.return_, 1) := by decide +kernel
theorem okX2_setOffer : CalOK yX2_setOffer cX2_setOffer 4 (none) 3 := ⟨wd_17, wd_400, by decide +kernel⟩
theorem ovX2_setOffer : VirOK yX2_setOffer := ⟨wd_399, wd_4⟩
def FX2_setOffer_21 (s0 : Int32) (s1 : Int32) (B : Blk) : Option Blk :=
  stb B 19 24 s1 s0 fun B5 =>
  some B5
set_option maxRecDepth 100000 in
set_option maxHeartbeats 4000000 in
theorem wX2_setOffer_21 {E : WE} {V : VT} {A : Nat → Prop} {H0 : Heap} {M : Mem} {j : Nat} (hj : j < 11) (Cx : CX E RX2 cX2_setOffer 4 0 0) {B' : Blk} (hret : RetV E V A H0 cX2_setOffer (jb M j B')) {H : Heap} {locs : List Loc} {ls : Array Slot} {s0 : Int32} {s1 : Int32} {B : Blk} (hW : Wd V A H0 (jb M j B) (eS E) H locs) (hl : lv_has ls 4 []) (hF : FX2_setOffer_21 s0 s1 B = some B') : Wq E H locs 21 ls [.int s0, .int s1, .ref (vA V j 19)] := by
  unfold FX2_setOffer_21 at hF
  obtain ⟨h6, B5, e7, hF⟩ := stb_some hF
  refine qb_iast Cx hW (ai_19 hj) h6 e7 dX2_setOffer_21 (fun H locs hW => ?_)
  obtain rfl := Option.some.inj hF
  exact hret _ _ _ _ dX2_setOffer_22 hW
def FX2_setOffer (B : Blk) (l1 : Int32) (l2 : Int32) (l3 : Int32) : Option Blk :=
  stb B 18 24 l1 l2 fun B1 =>
  if l2 ≤ 0 then
    FX2_setOffer_21 (0 : Int32) l1 B1
  else
    FX2_setOffer_21 l3 l1 B1
set_option maxRecDepth 100000 in
set_option maxHeartbeats 4000000 in
theorem wX2_setOffer {E : WE} {V : VT} {A : Nat → Prop} {H0 : Heap} {M : Mem} {j : Nat} (hj : j < 11) (Cx : CX E RX2 cX2_setOffer 4 0 0) {B' : Blk} (hret : RetV E V A H0 cX2_setOffer (jb M j B')) {H : Heap} {locs : List Loc} {ls : Array Slot} {l1 : Int32} {l2 : Int32} {l3 : Int32} {B : Blk} (hW : Wd V A H0 (jb M j B) (eS E) H locs) (hl : lv_has ls 4 [(0, .ref (vA V j 0)), (1, .int l1), (2, .int l2), (3, .int l3)]) (hF : FX2_setOffer B l1 l2 l3 = some B') : Wq E H locs 0 ls [] := by
  unfold FX2_setOffer at hF
  refine q_aload_n Cx dX2_setOffer_0 rfl (lv_at hl 0 rfl) ?_
  refine q_get (v := .ref (vA V j 18)) Cx hW (oM hj) ic2 6 (by decide) rfl wd_123 dX2_setOffer_1 ?_
  refine q_iload_n Cx dX2_setOffer_4 rfl (lv_at hl 1 rfl) ?_
  refine q_iload_n Cx dX2_setOffer_5 rfl (lv_at hl 2 rfl) ?_
  obtain ⟨h2, B1, e3, hF⟩ := stb_some hF
  refine qb_iast Cx hW (ai_18 hj) h2 e3 dX2_setOffer_6 (fun H locs hW => ?_)
  refine q_aload_n Cx dX2_setOffer_7 rfl (lv_at hl 0 rfl) ?_
  refine q_get (v := .ref (vA V j 19)) Cx hW (oM hj) ic2 7 (by decide) rfl wd_124 dX2_setOffer_8 ?_
  refine q_iload_n Cx dX2_setOffer_11 rfl (lv_at hl 1 rfl) ?_
  refine q_iload_n Cx dX2_setOffer_12 rfl (lv_at hl 2 rfl) ?_
  refine q_if_le (tgt := 20) Cx dX2_setOffer_13 (by decide) (fun c4 => ?_) (fun c4 => ?_)
  · have hF := (if_pos c4).symm.trans hF
    refine q_iconst (v := (0 : Int32)) Cx dX2_setOffer_20 (by decide) ?_
    exact wX2_setOffer_21 hj Cx hret hW (lv_sub hl [] rfl) hF
  · have hF := (if_neg c4).symm.trans hF
    refine q_iload_n Cx dX2_setOffer_16 rfl (lv_at hl 3 rfl) ?_
    refine q_goto (tgt := 21) Cx dX2_setOffer_17 (by decide) ?_
    exact wX2_setOffer_21 hj Cx hret hW (lv_sub hl [] rfl) hF
set_option maxRecDepth 100000 in
theorem kX2_setOffer {l : Launch} {V : VT} {M : Mem} {j : Nat} (hj : j < 11) {B : Blk} {l1 : Int32} {l2 : Int32} {l3 : Int32} {B' : Blk} (hF : FX2_setOffer B l1 l2 l3 = some B') : MetV l V yX2_setOffer cX2_setOffer 4 ({ frames := 0, cells := 0, slots := 0, locals := 0 } : Room) [.ref (vA V j 0), .int l1, .int l2, .int l3] (jb M j B) (jb M j B') := metV_of (by decide) (Nat.le_of_ble_eq_true rfl) (fun E H0 _ Cx hret H locs ls hW hl => wX2_setOffer hj Cx hret hW hl hF)
theorem dX2_makeOffer_0 : decode cX2_makeOffer 0 = .ok (.aload_n 0, 1) := by decide +kernel
theorem dX2_makeOffer_1 : decode cX2_makeOffer 1 = .ok (.getfield 12, 3) := by decide +kernel
theorem dX2_makeOffer_4 : decode cX2_makeOffer 4 = .ok (.iload_n 1, 1) := by decide +kernel
theorem dX2_makeOffer_5 : decode cX2_makeOffer 5 = .ok (.invokevirtual 61, 3) := by decide +kernel
theorem dX2_makeOffer_8 : decode cX2_makeOffer 8 = .ok (.ifCond .ne 5, 3) := by decide +kernel
theorem dX2_makeOffer_11 : decode cX2_makeOffer 11 = .ok (.iconst (-1), 1) := by decide +kernel
theorem dX2_makeOffer_12 : decode cX2_makeOffer 12 = .ok (.ireturn, 1) := by decide +kernel
theorem dX2_makeOffer_13 : decode cX2_makeOffer 13 = .ok (.iload_n 2, 1) := by decide +kernel
theorem dX2_makeOffer_14 : decode cX2_makeOffer 14 = .ok (.ifCond .lt 21, 3) := by decide +kernel
theorem dX2_makeOffer_17 : decode cX2_makeOffer 17 = .ok (.iload_n 2, 1) := by decide +kernel
theorem dX2_makeOffer_18 : decode cX2_makeOffer 18 = .ok (.sipush 500, 3) := by decide +kernel
theorem dX2_makeOffer_21 : decode cX2_makeOffer 21 = .ok (.if_icmp .gt 14, 3) := by decide +kernel
theorem dX2_makeOffer_24 : decode cX2_makeOffer 24 = .ok (.iload_n 3, 1) := by decide +kernel
theorem dX2_makeOffer_25 : decode cX2_makeOffer 25 = .ok (.ifCond .lt 10, 3) := by decide +kernel
theorem dX2_makeOffer_28 : decode cX2_makeOffer 28 = .ok (.iload_n 3, 1) := by decide +kernel
theorem dX2_makeOffer_29 : decode cX2_makeOffer 29 = .ok (.sipush 1000, 3) := by decide +kernel
theorem dX2_makeOffer_32 : decode cX2_makeOffer 32 = .ok (.if_icmp .le 6, 3) := by decide +kernel
theorem dX2_makeOffer_35 : decode cX2_makeOffer 35 = .ok (.bipush (-2), 2) := by decide +kernel
theorem dX2_makeOffer_37 : decode cX2_makeOffer 37 = .ok (.ireturn, 1) := by decide +kernel
theorem dX2_makeOffer_38 : decode cX2_makeOffer 38 = .ok (.aload_n 0, 1) := by decide +kernel
theorem dX2_makeOffer_39 : decode cX2_makeOffer 39 = .ok (.getfield 39, 3) := by decide +kernel
theorem dX2_makeOffer_42 : decode cX2_makeOffer 42 = .ok (.iload_n 1, 1) := by decide +kernel
theorem dX2_makeOffer_43 : decode cX2_makeOffer 43 = .ok (.iaload, 1) := by decide +kernel
theorem dX2_makeOffer_44 : decode cX2_makeOffer 44 = .ok (.istore 4, 2) := by decide +kernel
theorem dX2_makeOffer_46 : decode cX2_makeOffer 46 = .ok (.aload_n 0, 1) := by decide +kernel
theorem dX2_makeOffer_47 : decode cX2_makeOffer 47 = .ok (.iload_n 1, 1) := by decide +kernel
theorem dX2_makeOffer_48 : decode cX2_makeOffer 48 = .ok (.iload_n 2, 1) := by decide +kernel
theorem dX2_makeOffer_49 : decode cX2_makeOffer 49 = .ok (.iload_n 3, 1) := by decide +kernel
theorem dX2_makeOffer_50 : decode cX2_makeOffer 50 = .ok (.invokevirtual 94, 3) := by decide +kernel
theorem dX2_makeOffer_53 : decode cX2_makeOffer 53 = .ok (.iload 4, 2) := by decide +kernel
theorem dX2_makeOffer_55 : decode cX2_makeOffer 55 = .ok (.ireturn, 1) := by decide +kernel
theorem okX2_makeOffer : CalOK yX2_makeOffer cX2_makeOffer 5 (some .int) 3 := ⟨wd_17, wd_396, by decide +kernel⟩
theorem ovX2_makeOffer : VirOK yX2_makeOffer := ⟨wd_394, wd_395⟩
def FX2_makeOffer (B : Blk) (l1 : Int32) (l2 : Int32) (l3 : Int32) : Option (Int32 × Blk) :=
  c1 (FX4_has B l1) fun r1 =>
  if r1 = 0 then
    some ((-1 : Int32), B)
  else
    if l2 < 0 then
      some ((-2 : Int32), B)
    else
      if (500 : Int32) < l2 then
        some ((-2 : Int32), B)
      else
        if l3 < 0 then
          some ((-2 : Int32), B)
        else
          if l3 ≤ (1000 : Int32) then
            ld (B 18) 24 l1 fun v8 =>
            c1 (FX2_setOffer B l1 l2 l3) fun B13 =>
            some (v8, B13)
          else
            some ((-2 : Int32), B)
set_option maxRecDepth 100000 in
set_option maxHeartbeats 4000000 in
theorem wX2_makeOffer {E : WE} {V : VT} {A : Nat → Prop} {H0 : Heap} {M : Mem} {j : Nat} (hj : j < 11) (Cx : CX E RX2 cX2_makeOffer 5 1 23) {r : Int32} {B' : Blk} (hret : RetI E V A H0 cX2_makeOffer .int r (jb M j B')) {H : Heap} {locs : List Loc} {ls : Array Slot} {l1 : Int32} {l2 : Int32} {l3 : Int32} {B : Blk} (hW : Wd V A H0 (jb M j B) (eS E) H locs) (hl : lv_has ls 5 [(0, .ref (vA V j 0)), (1, .int l1), (2, .int l2), (3, .int l3)]) (hF : FX2_makeOffer B l1 l2 l3 = some (r, B')) : Wq E H locs 0 ls [] := by
  unfold FX2_makeOffer at hF
  refine q_aload_n Cx dX2_makeOffer_0 rfl (lv_at hl 0 rfl) ?_
  refine q_get (v := .ref (vA V j 1)) Cx hW (oM hj) ic2 0 (by decide) rfl wd_113 dX2_makeOffer_1 ?_
  refine q_iload_n Cx dX2_makeOffer_4 rfl (lv_at hl 1 rfl) ?_
  obtain ⟨r1, e2, hF⟩ := c1_some hF
  refine q_callI (as := [.int l1]) (rest := []) Cx (kX4_has hj e2) okX4_has ovX4_has wd_249 ⟨rfl, rfl, by decide, by decide⟩ hW (oP hj) ic4 rfl hl.1 (Nat.le_of_ble_eq_true rfl) rfl dX2_makeOffer_5 (fun H locs hW => ?_)
  refine q_if_ne (tgt := 13) Cx dX2_makeOffer_8 (by decide) (fun c3 => ?_) (fun c3 => ?_)
  · have hF := (if_neg c3).symm.trans hF
    refine q_iload_n Cx dX2_makeOffer_13 rfl (lv_at hl 2 rfl) ?_
    refine q_if_lt (tgt := 35) Cx dX2_makeOffer_14 (by decide) (fun c4 => ?_) (fun c4 => ?_)
    · have hF := (if_pos c4).symm.trans hF
      refine q_bipush (v := (-2 : Int32)) Cx dX2_makeOffer_35 (by decide) ?_
      obtain ⟨rfl, rfl⟩ := Prod.mk.inj (Option.some.inj hF)
      exact hret _ _ _ _ dX2_makeOffer_37 (nI32 _) hW
    · have hF := (if_neg c4).symm.trans hF
      refine q_iload_n Cx dX2_makeOffer_17 rfl (lv_at hl 2 rfl) ?_
      refine q_sipush (v := (500 : Int32)) Cx dX2_makeOffer_18 (by decide) ?_
      refine q_icmp_gt (tgt := 35) Cx dX2_makeOffer_21 (by decide) (fun c5 => ?_) (fun c5 => ?_)
      · have hF := (if_pos c5).symm.trans hF
        refine q_bipush (v := (-2 : Int32)) Cx dX2_makeOffer_35 (by decide) ?_
        obtain ⟨rfl, rfl⟩ := Prod.mk.inj (Option.some.inj hF)
        exact hret _ _ _ _ dX2_makeOffer_37 (nI32 _) hW
      · have hF := (if_neg c5).symm.trans hF
        refine q_iload_n Cx dX2_makeOffer_24 rfl (lv_at hl 3 rfl) ?_
        refine q_if_lt (tgt := 35) Cx dX2_makeOffer_25 (by decide) (fun c6 => ?_) (fun c6 => ?_)
        · have hF := (if_pos c6).symm.trans hF
          refine q_bipush (v := (-2 : Int32)) Cx dX2_makeOffer_35 (by decide) ?_
          obtain ⟨rfl, rfl⟩ := Prod.mk.inj (Option.some.inj hF)
          exact hret _ _ _ _ dX2_makeOffer_37 (nI32 _) hW
        · have hF := (if_neg c6).symm.trans hF
          refine q_iload_n Cx dX2_makeOffer_28 rfl (lv_at hl 3 rfl) ?_
          refine q_sipush (v := (1000 : Int32)) Cx dX2_makeOffer_29 (by decide) ?_
          refine q_icmp_le (tgt := 38) Cx dX2_makeOffer_32 (by decide) (fun c7 => ?_) (fun c7 => ?_)
          · have hF := (if_pos c7).symm.trans hF
            refine q_aload_n Cx dX2_makeOffer_38 rfl (lv_at hl 0 rfl) ?_
            refine q_get (v := .ref (vA V j 18)) Cx hW (oM hj) ic2 6 (by decide) rfl wd_123 dX2_makeOffer_39 ?_
            refine q_iload_n Cx dX2_makeOffer_42 rfl (lv_at hl 1 rfl) ?_
            obtain ⟨h9, v8, e10, hF⟩ := ld_some hF
            refine qb_iald Cx hW (ai_18 hj) h9 e10 dX2_makeOffer_43 ?_
            refine q_istore (lv' := [(4, .int v8), (0, .ref (vA V j 0)), (1, .int l1), (2, .int l2), (3, .int l3)]) Cx dX2_makeOffer_44 hl (by decide) rfl (fun ls hl => ?_)
            refine q_aload_n Cx dX2_makeOffer_46 rfl (lv_at hl 1 rfl) ?_
            refine q_iload_n Cx dX2_makeOffer_47 rfl (lv_at hl 2 rfl) ?_
            refine q_iload_n Cx dX2_makeOffer_48 rfl (lv_at hl 3 rfl) ?_
            refine q_iload_n Cx dX2_makeOffer_49 rfl (lv_at hl 4 rfl) ?_
            obtain ⟨B13, e12, hF⟩ := c1_some hF
            refine q_callV (as := [.int l1, .int l2, .int l3]) (rest := []) Cx (kX2_setOffer hj e12) okX2_setOffer ovX2_setOffer wd_397 ⟨rfl, rfl, by decide, by decide⟩ hW (oM hj) ic2 rfl hl.1 (Nat.le_of_ble_eq_true rfl) rfl dX2_makeOffer_50 (fun H locs hW => ?_)
            refine q_iload Cx dX2_makeOffer_53 (lv_at hl 0 rfl) ?_
            obtain ⟨rfl, rfl⟩ := Prod.mk.inj (Option.some.inj hF)
            exact hret _ _ _ _ dX2_makeOffer_55 (nI32 _) hW
          · have hF := (if_neg c7).symm.trans hF
            refine q_bipush (v := (-2 : Int32)) Cx dX2_makeOffer_35 (by decide) ?_
            obtain ⟨rfl, rfl⟩ := Prod.mk.inj (Option.some.inj hF)
            exact hret _ _ _ _ dX2_makeOffer_37 (nI32 _) hW
  · have hF := (if_pos c3).symm.trans hF
    refine q_iconst (v := (-1 : Int32)) Cx dX2_makeOffer_11 (by decide) ?_
    obtain ⟨rfl, rfl⟩ := Prod.mk.inj (Option.some.inj hF)
    exact hret _ _ _ _ dX2_makeOffer_12 (nI32 _) hW
set_option maxRecDepth 100000 in
theorem kX2_makeOffer {l : Launch} {V : VT} {M : Mem} {j : Nat} (hj : j < 11) {B : Blk} {l1 : Int32} {l2 : Int32} {l3 : Int32} {r : Int32} {B' : Blk} (hF : FX2_makeOffer B l1 l2 l3 = some (r, B')) : MetI l V yX2_makeOffer cX2_makeOffer 5 .int ({ frames := 1, cells := 0, slots := 0, locals := 23 } : Room) [.ref (vA V j 0), .int l1, .int l2, .int l3] r (jb M j B) (jb M j B') := metI_of (by decide) (Nat.le_of_ble_eq_true rfl) (fun E H0 _ Cx hret H locs ls hW hl => wX2_makeOffer hj Cx hret hW hl hF)
theorem dX2_lateOf_0 : decode cX2_lateOf 0 = .ok (.iconst 0, 1) := by decide +kernel
theorem dX2_lateOf_1 : decode cX2_lateOf 1 = .ok (.aload_n 0, 1) := by decide +kernel
theorem dX2_lateOf_2 : decode cX2_lateOf 2 = .ok (.getfield 12, 3) := by decide +kernel
theorem dX2_lateOf_5 : decode cX2_lateOf 5 = .ok (.getfield 108, 3) := by decide +kernel
theorem dX2_lateOf_8 : decode cX2_lateOf 8 = .ok (.iload_n 1, 1) := by decide +kernel
theorem dX2_lateOf_9 : decode cX2_lateOf 9 = .ok (.iaload, 1) := by decide +kernel
theorem dX2_lateOf_10 : decode cX2_lateOf 10 = .ok (.aload_n 0, 1) := by decide +kernel
theorem dX2_lateOf_11 : decode cX2_lateOf 11 = .ok (.getfield 32, 3) := by decide +kernel
theorem dX2_lateOf_14 : decode cX2_lateOf 14 = .ok (.iload_n 1, 1) := by decide +kernel
theorem dX2_lateOf_15 : decode cX2_lateOf 15 = .ok (.iaload, 1) := by decide +kernel
theorem dX2_lateOf_16 : decode cX2_lateOf 16 = .ok (.isub, 1) := by decide +kernel
theorem dX2_lateOf_17 : decode cX2_lateOf 17 = .ok (.invokestatic 158, 3) := by decide +kernel
theorem dX2_lateOf_20 : decode cX2_lateOf 20 = .ok (.ireturn, 1) := by decide +kernel
theorem okX2_lateOf : CalOK yX2_lateOf cX2_lateOf 2 (some .int) 1 := ⟨wd_17, wd_293, by decide +kernel⟩
theorem ovX2_lateOf : VirOK yX2_lateOf := ⟨wd_291, wd_292⟩
def FX2_lateOf (B : Blk) (l1 : Int32) : Option Int32 :=
  ld (B 6) 24 l1 fun v1 =>
  ld (B 16) 24 l1 fun v4 =>
  lt1 (if (0 : Int32) < (v1 - v4) then (v1 - v4) else (0 : Int32)) fun x7 =>
  some x7
set_option maxRecDepth 100000 in
set_option maxHeartbeats 4000000 in
theorem wX2_lateOf {E : WE} {V : VT} {A : Nat → Prop} {H0 : Heap} {M : Mem} {j : Nat} (hj : j < 11) (Cx : CX E RX2 cX2_lateOf 2 1 40) {r : Int32} {B : Blk} (hret : RetI E V A H0 cX2_lateOf .int r (jb M j B)) {H : Heap} {locs : List Loc} {ls : Array Slot} {l1 : Int32} (hW : Wd V A H0 (jb M j B) (eS E) H locs) (hl : lv_has ls 2 [(0, .ref (vA V j 0)), (1, .int l1)]) (hF : FX2_lateOf B l1 = some r) : Wq E H locs 0 ls [] := by
  unfold FX2_lateOf at hF
  refine q_iconst (v := (0 : Int32)) Cx dX2_lateOf_0 (by decide) ?_
  refine q_aload_n Cx dX2_lateOf_1 rfl (lv_at hl 0 rfl) ?_
  refine q_get (v := .ref (vA V j 1)) Cx hW (oM hj) ic2 0 (by decide) rfl wd_113 dX2_lateOf_2 ?_
  refine q_get (v := .ref (vA V j 6)) Cx hW (oP hj) ic4 4 (by decide) rfl wd_53 dX2_lateOf_5 ?_
  refine q_iload_n Cx dX2_lateOf_8 rfl (lv_at hl 1 rfl) ?_
  obtain ⟨h2, v1, e3, hF⟩ := ld_some hF
  refine qb_iald Cx hW (ai_6 hj) h2 e3 dX2_lateOf_9 ?_
  refine q_aload_n Cx dX2_lateOf_10 rfl (lv_at hl 0 rfl) ?_
  refine q_get (v := .ref (vA V j 16)) Cx hW (oM hj) ic2 4 (by decide) rfl wd_119 dX2_lateOf_11 ?_
  refine q_iload_n Cx dX2_lateOf_14 rfl (lv_at hl 1 rfl) ?_
  obtain ⟨h5, v4, e6, hF⟩ := ld_some hF
  refine qb_iald Cx hW (ai_16 hj) h5 e6 dX2_lateOf_15 ?_
  refine q_isub Cx dX2_lateOf_16 ?_
  obtain ⟨x7, e8, hF⟩ := lt1_some hF
  refine q_max Cx wd_294 wd_271 wd_23 wd_272 hl.1 (by decide) (Nat.le_of_ble_eq_true rfl) e8.symm dX2_lateOf_17 ?_
  obtain rfl := Option.some.inj hF
  exact hret _ _ _ _ dX2_lateOf_20 (nI32 _) hW
set_option maxRecDepth 100000 in
theorem kX2_lateOf {l : Launch} {V : VT} {M : Mem} {j : Nat} (hj : j < 11) {B : Blk} {l1 : Int32} {r : Int32} (hF : FX2_lateOf B l1 = some r) : MetI l V yX2_lateOf cX2_lateOf 2 .int ({ frames := 1, cells := 0, slots := 0, locals := 40 } : Room) [.ref (vA V j 0), .int l1] r (jb M j B) (jb M j B) := metI_of (by decide) (Nat.le_of_ble_eq_true rfl) (fun E H0 _ Cx hret H locs ls hW hl => wX2_lateOf hj Cx hret hW hl hF)
theorem dX2_latestExcept_0 : decode cX2_latestExcept 0 = .ok (.bipush (-6), 2) := by decide +kernel
theorem dX2_latestExcept_2 : decode cX2_latestExcept 2 = .ok (.istore_n 2, 1) := by decide +kernel
theorem dX2_latestExcept_3 : decode cX2_latestExcept 3 = .ok (.iconst 0, 1) := by decide +kernel
theorem dX2_latestExcept_4 : decode cX2_latestExcept 4 = .ok (.istore_n 3, 1) := by decide +kernel
theorem dX2_latestExcept_5 : decode cX2_latestExcept 5 = .ok (.iload_n 3, 1) := by decide +kernel
theorem dX2_latestExcept_6 : decode cX2_latestExcept 6 = .ok (.aload_n 0, 1) := by decide +kernel
theorem dX2_latestExcept_7 : decode cX2_latestExcept 7 = .ok (.getfield 12, 3) := by decide +kernel
theorem dX2_latestExcept_10 : decode cX2_latestExcept 10 = .ok (.getfield 66, 3) := by decide +kernel
theorem dX2_latestExcept_13 : decode cX2_latestExcept 13 = .ok (.if_icmp .ge 42, 3) := by decide +kernel
theorem dX2_latestExcept_16 : decode cX2_latestExcept 16 = .ok (.iload_n 1, 1) := by decide +kernel
theorem dX2_latestExcept_17 : decode cX2_latestExcept 17 = .ok (.iload_n 3, 1) := by decide +kernel
theorem dX2_latestExcept_18 : decode cX2_latestExcept 18 = .ok (.ishr, 1) := by decide +kernel
theorem dX2_latestExcept_19 : decode cX2_latestExcept 19 = .ok (.iconst 1, 1) := by decide +kernel
theorem dX2_latestExcept_20 : decode cX2_latestExcept 20 = .ok (.iand, 1) := by decide +kernel
theorem dX2_latestExcept_21 : decode cX2_latestExcept 21 = .ok (.ifCond .ne 28, 3) := by decide +kernel
theorem dX2_latestExcept_24 : decode cX2_latestExcept 24 = .ok (.aload_n 0, 1) := by decide +kernel
theorem dX2_latestExcept_25 : decode cX2_latestExcept 25 = .ok (.iload_n 3, 1) := by decide +kernel
theorem dX2_latestExcept_26 : decode cX2_latestExcept 26 = .ok (.invokevirtual 125, 3) := by decide +kernel
theorem dX2_latestExcept_29 : decode cX2_latestExcept 29 = .ok (.iload_n 2, 1) := by decide +kernel
theorem dX2_latestExcept_30 : decode cX2_latestExcept 30 = .ok (.bipush (-6), 2) := by decide +kernel
theorem dX2_latestExcept_32 : decode cX2_latestExcept 32 = .ok (.if_icmp .ne 7, 3) := by decide +kernel
theorem dX2_latestExcept_35 : decode cX2_latestExcept 35 = .ok (.iconst 0, 1) := by decide +kernel
theorem dX2_latestExcept_36 : decode cX2_latestExcept 36 = .ok (.goto 8, 3) := by decide +kernel
theorem dX2_latestExcept_39 : decode cX2_latestExcept 39 = .ok (.aload_n 0, 1) := by decide +kernel
theorem dX2_latestExcept_40 : decode cX2_latestExcept 40 = .ok (.iload_n 2, 1) := by decide +kernel
theorem dX2_latestExcept_41 : decode cX2_latestExcept 41 = .ok (.invokevirtual 125, 3) := by decide +kernel
theorem dX2_latestExcept_44 : decode cX2_latestExcept 44 = .ok (.if_icmp .le 5, 3) := by decide +kernel
theorem dX2_latestExcept_47 : decode cX2_latestExcept 47 = .ok (.iload_n 3, 1) := by decide +kernel
theorem dX2_latestExcept_48 : decode cX2_latestExcept 48 = .ok (.istore_n 2, 1) := by decide +kernel
theorem dX2_latestExcept_49 : decode cX2_latestExcept 49 = .ok (.iinc 3 1, 3) := by decide +kernel
theorem dX2_latestExcept_52 : decode cX2_latestExcept 52 = .ok (.goto (-47), 3) := by decide +kernel
theorem dX2_latestExcept_55 : decode cX2_latestExcept 55 = .ok (.iload_n 2, 1) := by decide +kernel
theorem dX2_latestExcept_56 : decode cX2_latestExcept 56 = .ok (.ireturn, 1) := by decide +kernel
theorem okX2_latestExcept : CalOK yX2_latestExcept cX2_latestExcept 4 (some .int) 1 := ⟨wd_17, wd_491, by decide +kernel⟩
theorem ovX2_latestExcept : VirOK yX2_latestExcept := ⟨wd_490, wd_8⟩
def FX2_latestExcept_44 (B : Blk) (k5 : Int32 → Int32 → Int32 → Option Int32) (l1 : Int32) (l2 : Int32) (l3 : Int32) (s0 : Int32) (s1 : Int32) : Option Int32 :=
  if s1 ≤ s0 then
    lt1 (l3 + (1 : Int32)) fun x11 =>
    k5 l1 l2 x11
  else
    lt1 (l3 + (1 : Int32)) fun x13 =>
    k5 l1 l3 x13
set_option maxRecDepth 100000 in
set_option maxHeartbeats 4000000 in
theorem wX2_latestExcept_44 {E : WE} {V : VT} {A : Nat → Prop} {H0 : Heap} {M : Mem} {j : Nat} (hj : j < 11) (Cx : CX E RX2 cX2_latestExcept 4 2 61) {r : Int32} {B : Blk} (hret : RetI E V A H0 cX2_latestExcept .int r (jb M j B)) {k5 : Int32 → Int32 → Int32 → Option Int32} (hk5 : ∀ {H : Heap} {locs : List Loc} {ls : Array Slot} {l1 : Int32} {l2 : Int32} {l3 : Int32}, Wd V A H0 (jb M j B) (eS E) H locs → lv_has ls 4 [(0, .ref (vA V j 0)), (1, .int l1), (2, .int l2), (3, .int l3)] → k5 l1 l2 l3 = some r → Wq E H locs 5 ls []) {H : Heap} {locs : List Loc} {ls : Array Slot} {l1 : Int32} {l2 : Int32} {l3 : Int32} {s0 : Int32} {s1 : Int32} (hW : Wd V A H0 (jb M j B) (eS E) H locs) (hl : lv_has ls 4 [(0, .ref (vA V j 0)), (1, .int l1), (2, .int l2), (3, .int l3)]) (hF : FX2_latestExcept_44 B k5 l1 l2 l3 s0 s1 = some r) : Wq E H locs 44 ls [.int s0, .int s1] := by
  unfold FX2_latestExcept_44 at hF
  refine q_icmp_le (tgt := 49) Cx dX2_latestExcept_44 (by decide) (fun c10 => ?_) (fun c10 => ?_)
  · have hF := (if_pos c10).symm.trans hF
    obtain ⟨x11, e12, hF⟩ := lt1_some hF
    refine q_iinc (k := 3) (v := x11) (lv' := [(3, .int x11), (0, .ref (vA V j 0)), (1, .int l1), (2, .int l2)]) Cx dX2_latestExcept_49 hl rfl e12.symm (by decide) rfl (fun ls hl => ?_)
    refine q_goto (tgt := 5) Cx dX2_latestExcept_52 (by decide) ?_
    exact hk5 hW (lv_sub hl [1, 2, 3, 0] rfl) hF
  · have hF := (if_neg c10).symm.trans hF
    refine q_iload_n Cx dX2_latestExcept_47 rfl (lv_at hl 3 rfl) ?_
    refine q_istore_n (lv' := [(2, .int l3), (0, .ref (vA V j 0)), (1, .int l1), (3, .int l3)]) Cx dX2_latestExcept_48 rfl hl (by decide) rfl (fun ls hl => ?_)
    obtain ⟨x13, e14, hF⟩ := lt1_some hF
    refine q_iinc (k := 3) (v := x13) (lv' := [(3, .int x13), (2, .int l3), (0, .ref (vA V j 0)), (1, .int l1)]) Cx dX2_latestExcept_49 hl rfl e14.symm (by decide) rfl (fun ls hl => ?_)
    refine q_goto (tgt := 5) Cx dX2_latestExcept_52 (by decide) ?_
    exact hk5 hW (lv_sub hl [2, 3, 1, 0] rfl) hF
def FX2_latestExcept_5s (B : Blk) (k5 : Int32 → Int32 → Int32 → Option Int32) (l1 : Int32) (l2 : Int32) (l3 : Int32) : Option Int32 :=
  if ((B 1) 0) ≤ l3 then
    some l2
  else
    if ((l1 >>> (l3 &&& 31)) &&& (1 : Int32)) = 0 then
      c1 (FX2_lateOf B l3) fun r5 =>
      if l2 = (-6 : Int32) then
        FX2_latestExcept_44 B k5 l1 l2 l3 (0 : Int32) r5
      else
        c1 (FX2_lateOf B l2) fun r8 =>
        FX2_latestExcept_44 B k5 l1 l2 l3 r8 r5
    else
      lt1 (l3 + (1 : Int32)) fun x3 =>
      k5 l1 l2 x3
set_option maxRecDepth 100000 in
set_option maxHeartbeats 4000000 in
theorem wX2_latestExcept_5s {E : WE} {V : VT} {A : Nat → Prop} {H0 : Heap} {M : Mem} {j : Nat} (hj : j < 11) (Cx : CX E RX2 cX2_latestExcept 4 2 61) {r : Int32} {B : Blk} (hret : RetI E V A H0 cX2_latestExcept .int r (jb M j B)) {k5 : Int32 → Int32 → Int32 → Option Int32} (hk5 : ∀ {H : Heap} {locs : List Loc} {ls : Array Slot} {l1 : Int32} {l2 : Int32} {l3 : Int32}, Wd V A H0 (jb M j B) (eS E) H locs → lv_has ls 4 [(0, .ref (vA V j 0)), (1, .int l1), (2, .int l2), (3, .int l3)] → k5 l1 l2 l3 = some r → Wq E H locs 5 ls []) {H : Heap} {locs : List Loc} {ls : Array Slot} {l1 : Int32} {l2 : Int32} {l3 : Int32} (hW : Wd V A H0 (jb M j B) (eS E) H locs) (hl : lv_has ls 4 [(0, .ref (vA V j 0)), (1, .int l1), (2, .int l2), (3, .int l3)]) (hF : FX2_latestExcept_5s B k5 l1 l2 l3 = some r) : Wq E H locs 5 ls [] := by
  unfold FX2_latestExcept_5s at hF
  refine q_iload_n Cx dX2_latestExcept_5 rfl (lv_at hl 3 rfl) ?_
  refine q_aload_n Cx dX2_latestExcept_6 rfl (lv_at hl 0 rfl) ?_
  refine q_get (v := .ref (vA V j 1)) Cx hW (oM hj) ic2 0 (by decide) rfl wd_113 dX2_latestExcept_7 ?_
  refine qb_get (v := .int ((B 1) 0)) Cx hW (oP hj) ic4 0 (by decide) rfl wd_45 dX2_latestExcept_10 ?_
  refine q_icmp_ge (tgt := 55) Cx dX2_latestExcept_13 (by decide) (fun c1 => ?_) (fun c1 => ?_)
  · have hF := (if_pos c1).symm.trans hF
    refine q_iload_n Cx dX2_latestExcept_55 rfl (lv_at hl 2 rfl) ?_
    obtain rfl := Option.some.inj hF
    exact hret _ _ _ _ dX2_latestExcept_56 (nI32 _) hW
  · have hF := (if_neg c1).symm.trans hF
    refine q_iload_n Cx dX2_latestExcept_16 rfl (lv_at hl 1 rfl) ?_
    refine q_iload_n Cx dX2_latestExcept_17 rfl (lv_at hl 3 rfl) ?_
    refine q_ishr Cx dX2_latestExcept_18 ?_
    refine q_iconst (v := (1 : Int32)) Cx dX2_latestExcept_19 (by decide) ?_
    refine q_iand Cx dX2_latestExcept_20 ?_
    refine q_if_ne (tgt := 49) Cx dX2_latestExcept_21 (by decide) (fun c2 => ?_) (fun c2 => ?_)
    · have hF := (if_neg c2).symm.trans hF
      obtain ⟨x3, e4, hF⟩ := lt1_some hF
      refine q_iinc (k := 3) (v := x3) (lv' := [(3, .int x3), (0, .ref (vA V j 0)), (1, .int l1), (2, .int l2)]) Cx dX2_latestExcept_49 hl rfl e4.symm (by decide) rfl (fun ls hl => ?_)
      refine q_goto (tgt := 5) Cx dX2_latestExcept_52 (by decide) ?_
      exact hk5 hW (lv_sub hl [1, 2, 3, 0] rfl) hF
    · have hF := (if_pos c2).symm.trans hF
      refine q_aload_n Cx dX2_latestExcept_24 rfl (lv_at hl 0 rfl) ?_
      refine q_iload_n Cx dX2_latestExcept_25 rfl (lv_at hl 3 rfl) ?_
      obtain ⟨r5, e6, hF⟩ := c1_some hF
      refine q_callI (as := [.int l3]) (rest := []) Cx (kX2_lateOf hj e6) okX2_lateOf ovX2_lateOf wd_290 ⟨rfl, rfl, by decide, by decide⟩ hW (oM hj) ic2 rfl hl.1 (Nat.le_of_ble_eq_true rfl) rfl dX2_latestExcept_26 (fun H locs hW => ?_)
      refine q_iload_n Cx dX2_latestExcept_29 rfl (lv_at hl 2 rfl) ?_
      refine q_bipush (v := (-6 : Int32)) Cx dX2_latestExcept_30 (by decide) ?_
      refine q_icmp_ne (tgt := 39) Cx dX2_latestExcept_32 (by decide) (fun c7 => ?_) (fun c7 => ?_)
      · have hF := (if_neg c7).symm.trans hF
        refine q_aload_n Cx dX2_latestExcept_39 rfl (lv_at hl 0 rfl) ?_
        refine q_iload_n Cx dX2_latestExcept_40 rfl (lv_at hl 2 rfl) ?_
        obtain ⟨r8, e9, hF⟩ := c1_some hF
        refine q_callI (as := [.int l2]) (rest := [.int r5]) Cx (kX2_lateOf hj e9) okX2_lateOf ovX2_lateOf wd_290 ⟨rfl, rfl, by decide, by decide⟩ hW (oM hj) ic2 rfl hl.1 (Nat.le_of_ble_eq_true rfl) rfl dX2_latestExcept_41 (fun H locs hW => ?_)
        exact wX2_latestExcept_44 hj Cx hret hk5 hW (lv_sub hl [0, 1, 2, 3] rfl) hF
      · have hF := (if_pos c7).symm.trans hF
        refine q_iconst (v := (0 : Int32)) Cx dX2_latestExcept_35 (by decide) ?_
        refine q_goto (tgt := 44) Cx dX2_latestExcept_36 (by decide) ?_
        exact wX2_latestExcept_44 hj Cx hret hk5 hW (lv_sub hl [0, 1, 2, 3] rfl) hF
def FX2_latestExcept_5 (B : Blk) : Nat → Int32 → Int32 → Int32 → Option Int32
  | 0 => fun _ _ _ => none
  | n + 1 => FX2_latestExcept_5s B (FX2_latestExcept_5 B n)
set_option maxRecDepth 100000 in
theorem wX2_latestExcept_5 {E : WE} {V : VT} {A : Nat → Prop} {H0 : Heap} {M : Mem} {j : Nat} (hj : j < 11) (Cx : CX E RX2 cX2_latestExcept 4 2 61) {r : Int32} {B : Blk} (hret : RetI E V A H0 cX2_latestExcept .int r (jb M j B)) : ∀ (n : Nat) {H : Heap} {locs : List Loc} {ls : Array Slot} {l1 : Int32} {l2 : Int32} {l3 : Int32}, Wd V A H0 (jb M j B) (eS E) H locs → lv_has ls 4 [(0, .ref (vA V j 0)), (1, .int l1), (2, .int l2), (3, .int l3)] → FX2_latestExcept_5 B n l1 l2 l3 = some r → Wq E H locs 5 ls [] := by
  intro n
  induction n with
  | zero => intro _ _ _ _ _ _ hW hl hF; cases hF
  | succ n ih => intro _ _ _ _ _ _ hW hl hF; exact wX2_latestExcept_5s hj Cx hret ih hW hl hF
def FX2_latestExcept (B : Blk) (l1 : Int32) : Option Int32 :=
  FX2_latestExcept_5 B fu l1 (-6 : Int32) (0 : Int32)
set_option maxRecDepth 100000 in
set_option maxHeartbeats 4000000 in
theorem wX2_latestExcept {E : WE} {V : VT} {A : Nat → Prop} {H0 : Heap} {M : Mem} {j : Nat} (hj : j < 11) (Cx : CX E RX2 cX2_latestExcept 4 2 61) {r : Int32} {B : Blk} (hret : RetI E V A H0 cX2_latestExcept .int r (jb M j B)) {H : Heap} {locs : List Loc} {ls : Array Slot} {l1 : Int32} (hW : Wd V A H0 (jb M j B) (eS E) H locs) (hl : lv_has ls 4 [(0, .ref (vA V j 0)), (1, .int l1)]) (hF : FX2_latestExcept B l1 = some r) : Wq E H locs 0 ls [] := by
  unfold FX2_latestExcept at hF
  refine q_bipush (v := (-6 : Int32)) Cx dX2_latestExcept_0 (by decide) ?_
  refine q_istore_n (lv' := [(2, .int (-6 : Int32)), (0, .ref (vA V j 0)), (1, .int l1)]) Cx dX2_latestExcept_2 rfl hl (by decide) rfl (fun ls hl => ?_)
  refine q_iconst (v := (0 : Int32)) Cx dX2_latestExcept_3 (by decide) ?_
  refine q_istore_n (lv' := [(3, .int (0 : Int32)), (2, .int (-6 : Int32)), (0, .ref (vA V j 0)), (1, .int l1)]) Cx dX2_latestExcept_4 rfl hl (by decide) rfl (fun ls hl => ?_)
  exact wX2_latestExcept_5 hj Cx hret fu hW (lv_sub hl [2, 3, 1, 0] rfl) hF
set_option maxRecDepth 100000 in
theorem kX2_latestExcept {l : Launch} {V : VT} {M : Mem} {j : Nat} (hj : j < 11) {B : Blk} {l1 : Int32} {r : Int32} (hF : FX2_latestExcept B l1 = some r) : MetI l V yX2_latestExcept cX2_latestExcept 4 .int ({ frames := 2, cells := 0, slots := 0, locals := 61 } : Room) [.ref (vA V j 0), .int l1] r (jb M j B) (jb M j B) := metI_of (by decide) (Nat.le_of_ble_eq_true rfl) (fun E H0 _ Cx hret H locs ls hW hl => wX2_latestExcept hj Cx hret hW hl hF)
theorem dX2_isInReach_0 : decode cX2_isInReach 0 = .ok (.aload_n 0, 1) := by decide +kernel
theorem dX2_isInReach_1 : decode cX2_isInReach 1 = .ok (.getfield 12, 3) := by decide +kernel
theorem dX2_isInReach_4 : decode cX2_isInReach 4 = .ok (.getfield 144, 3) := by decide +kernel
theorem dX2_isInReach_7 : decode cX2_isInReach 7 = .ok (.iload_n 1, 1) := by decide +kernel
theorem dX2_isInReach_8 : decode cX2_isInReach 8 = .ok (.iaload, 1) := by decide +kernel
theorem dX2_isInReach_9 : decode cX2_isInReach 9 = .ok (.istore_n 2, 1) := by decide +kernel
theorem dX2_isInReach_10 : decode cX2_isInReach 10 = .ok (.aload_n 0, 1) := by decide +kernel
theorem dX2_isInReach_11 : decode cX2_isInReach 11 = .ok (.getfield 39, 3) := by decide +kernel
theorem dX2_isInReach_14 : decode cX2_isInReach 14 = .ok (.iload_n 1, 1) := by decide +kernel
theorem dX2_isInReach_15 : decode cX2_isInReach 15 = .ok (.iaload, 1) := by decide +kernel
theorem dX2_isInReach_16 : decode cX2_isInReach 16 = .ok (.ifCond .le 21, 3) := by decide +kernel
theorem dX2_isInReach_19 : decode cX2_isInReach 19 = .ok (.iload_n 2, 1) := by decide +kernel
theorem dX2_isInReach_20 : decode cX2_isInReach 20 = .ok (.bipush (-6), 2) := by decide +kernel
theorem dX2_isInReach_22 : decode cX2_isInReach 22 = .ok (.if_icmp .eq 15, 3) := by decide +kernel
theorem dX2_isInReach_25 : decode cX2_isInReach 25 = .ok (.iload_n 2, 1) := by decide +kernel
theorem dX2_isInReach_26 : decode cX2_isInReach 26 = .ok (.aload_n 0, 1) := by decide +kernel
theorem dX2_isInReach_27 : decode cX2_isInReach 27 = .ok (.getfield 29, 3) := by decide +kernel
theorem dX2_isInReach_30 : decode cX2_isInReach 30 = .ok (.if_icmp .gt 7, 3) := by decide +kernel
theorem dX2_isInReach_33 : decode cX2_isInReach 33 = .ok (.iconst 1, 1) := by decide +kernel
theorem dX2_isInReach_34 : decode cX2_isInReach 34 = .ok (.goto 4, 3) := by decide +kernel
theorem dX2_isInReach_37 : decode cX2_isInReach 37 = .ok (.iconst 0, 1) := by decide +kernel
theorem dX2_isInReach_38 : decode cX2_isInReach 38 = .ok (.ireturn, 1) := by decide +kernel
theorem okX2_isInReach : CalOK yX2_isInReach cX2_isInReach 3 (some .boolean) 1 := ⟨wd_17, wd_511, by decide +kernel⟩
theorem ovX2_isInReach : VirOK yX2_isInReach := ⟨wd_510, wd_11⟩
def FX2_isInReach (B : Blk) (l1 : Int32) : Option Int32 :=
  ld (B 11) 24 l1 fun v1 =>
  ld (B 18) 24 l1 fun v4 =>
  if v4 ≤ 0 then
    some (0 : Int32)
  else
    if v1 = (-6 : Int32) then
      some (0 : Int32)
    else
      if ((B 0) 3) < v1 then
        some (0 : Int32)
      else
        some (1 : Int32)
set_option maxRecDepth 100000 in
set_option maxHeartbeats 4000000 in
theorem wX2_isInReach {E : WE} {V : VT} {A : Nat → Prop} {H0 : Heap} {M : Mem} {j : Nat} (hj : j < 11) (Cx : CX E RX2 cX2_isInReach 3 0 0) {r : Int32} {B : Blk} (hret : RetI E V A H0 cX2_isInReach .boolean r (jb M j B)) {H : Heap} {locs : List Loc} {ls : Array Slot} {l1 : Int32} (hW : Wd V A H0 (jb M j B) (eS E) H locs) (hl : lv_has ls 3 [(0, .ref (vA V j 0)), (1, .int l1)]) (hF : FX2_isInReach B l1 = some r) : Wq E H locs 0 ls [] := by
  unfold FX2_isInReach at hF
  refine q_aload_n Cx dX2_isInReach_0 rfl (lv_at hl 0 rfl) ?_
  refine q_get (v := .ref (vA V j 1)) Cx hW (oM hj) ic2 0 (by decide) rfl wd_113 dX2_isInReach_1 ?_
  refine q_get (v := .ref (vA V j 11)) Cx hW (oP hj) ic4 9 (by decide) rfl wd_61 dX2_isInReach_4 ?_
  refine q_iload_n Cx dX2_isInReach_7 rfl (lv_at hl 1 rfl) ?_
  obtain ⟨h2, v1, e3, hF⟩ := ld_some hF
  refine qb_iald Cx hW (ai_11 hj) h2 e3 dX2_isInReach_8 ?_
  refine q_istore_n (lv' := [(2, .int v1), (0, .ref (vA V j 0)), (1, .int l1)]) Cx dX2_isInReach_9 rfl hl (by decide) rfl (fun ls hl => ?_)
  refine q_aload_n Cx dX2_isInReach_10 rfl (lv_at hl 1 rfl) ?_
  refine q_get (v := .ref (vA V j 18)) Cx hW (oM hj) ic2 6 (by decide) rfl wd_123 dX2_isInReach_11 ?_
  refine q_iload_n Cx dX2_isInReach_14 rfl (lv_at hl 2 rfl) ?_
  obtain ⟨h5, v4, e6, hF⟩ := ld_some hF
  refine qb_iald Cx hW (ai_18 hj) h5 e6 dX2_isInReach_15 ?_
  refine q_if_le (tgt := 37) Cx dX2_isInReach_16 (by decide) (fun c7 => ?_) (fun c7 => ?_)
  · have hF := (if_pos c7).symm.trans hF
    refine q_iconst (v := (0 : Int32)) Cx dX2_isInReach_37 (by decide) ?_
    obtain rfl := Option.some.inj hF
    exact hret _ _ _ _ dX2_isInReach_38 (by rfl) hW
  · have hF := (if_neg c7).symm.trans hF
    refine q_iload_n Cx dX2_isInReach_19 rfl (lv_at hl 0 rfl) ?_
    refine q_bipush (v := (-6 : Int32)) Cx dX2_isInReach_20 (by decide) ?_
    refine q_icmp_eq (tgt := 37) Cx dX2_isInReach_22 (by decide) (fun c8 => ?_) (fun c8 => ?_)
    · have hF := (if_pos c8).symm.trans hF
      refine q_iconst (v := (0 : Int32)) Cx dX2_isInReach_37 (by decide) ?_
      obtain rfl := Option.some.inj hF
      exact hret _ _ _ _ dX2_isInReach_38 (by rfl) hW
    · have hF := (if_neg c8).symm.trans hF
      refine q_iload_n Cx dX2_isInReach_25 rfl (lv_at hl 0 rfl) ?_
      refine q_aload_n Cx dX2_isInReach_26 rfl (lv_at hl 1 rfl) ?_
      refine qb_get (v := .int ((B 0) 3)) Cx hW (oM hj) ic2 3 (by decide) rfl wd_118 dX2_isInReach_27 ?_
      refine q_icmp_gt (tgt := 37) Cx dX2_isInReach_30 (by decide) (fun c9 => ?_) (fun c9 => ?_)
      · have hF := (if_pos c9).symm.trans hF
        refine q_iconst (v := (0 : Int32)) Cx dX2_isInReach_37 (by decide) ?_
        obtain rfl := Option.some.inj hF
        exact hret _ _ _ _ dX2_isInReach_38 (by rfl) hW
      · have hF := (if_neg c9).symm.trans hF
        refine q_iconst (v := (1 : Int32)) Cx dX2_isInReach_33 (by decide) ?_
        refine q_goto (tgt := 38) Cx dX2_isInReach_34 (by decide) ?_
        obtain rfl := Option.some.inj hF
        exact hret _ _ _ _ dX2_isInReach_38 (by rfl) hW
set_option maxRecDepth 100000 in
theorem kX2_isInReach {l : Launch} {V : VT} {M : Mem} {j : Nat} (hj : j < 11) {B : Blk} {l1 : Int32} {r : Int32} (hF : FX2_isInReach B l1 = some r) : MetI l V yX2_isInReach cX2_isInReach 3 .boolean ({ frames := 0, cells := 0, slots := 0, locals := 0 } : Room) [.ref (vA V j 0), .int l1] r (jb M j B) (jb M j B) := metI_of (by decide) (Nat.le_of_ble_eq_true rfl) (fun E H0 _ Cx hret H locs ls hW hl => wX2_isInReach hj Cx hret hW hl hF)
theorem dX2_isBetterSeller_0 : decode cX2_isBetterSeller 0 = .ok (.aload_n 0, 1) := by decide +kernel
theorem dX2_isBetterSeller_1 : decode cX2_isBetterSeller 1 = .ok (.getfield 42, 3) := by decide +kernel
theorem dX2_isBetterSeller_4 : decode cX2_isBetterSeller 4 = .ok (.iload_n 1, 1) := by decide +kernel
theorem dX2_isBetterSeller_5 : decode cX2_isBetterSeller 5 = .ok (.iaload, 1) := by decide +kernel
theorem dX2_isBetterSeller_6 : decode cX2_isBetterSeller 6 = .ok (.aload_n 0, 1) := by decide +kernel
theorem dX2_isBetterSeller_7 : decode cX2_isBetterSeller 7 = .ok (.getfield 42, 3) := by decide +kernel
theorem dX2_isBetterSeller_10 : decode cX2_isBetterSeller 10 = .ok (.iload_n 2, 1) := by decide +kernel
theorem dX2_isBetterSeller_11 : decode cX2_isBetterSeller 11 = .ok (.iaload, 1) := by decide +kernel
theorem dX2_isBetterSeller_12 : decode cX2_isBetterSeller 12 = .ok (.if_icmp .eq 24, 3) := by decide +kernel
theorem dX2_isBetterSeller_15 : decode cX2_isBetterSeller 15 = .ok (.aload_n 0, 1) := by decide +kernel
theorem dX2_isBetterSeller_16 : decode cX2_isBetterSeller 16 = .ok (.getfield 42, 3) := by decide +kernel
theorem dX2_isBetterSeller_19 : decode cX2_isBetterSeller 19 = .ok (.iload_n 1, 1) := by decide +kernel
theorem dX2_isBetterSeller_20 : decode cX2_isBetterSeller 20 = .ok (.iaload, 1) := by decide +kernel
theorem dX2_isBetterSeller_21 : decode cX2_isBetterSeller 21 = .ok (.aload_n 0, 1) := by decide +kernel
theorem dX2_isBetterSeller_22 : decode cX2_isBetterSeller 22 = .ok (.getfield 42, 3) := by decide +kernel
theorem dX2_isBetterSeller_25 : decode cX2_isBetterSeller 25 = .ok (.iload_n 2, 1) := by decide +kernel
theorem dX2_isBetterSeller_26 : decode cX2_isBetterSeller 26 = .ok (.iaload, 1) := by decide +kernel
theorem dX2_isBetterSeller_27 : decode cX2_isBetterSeller 27 = .ok (.if_icmp .ge 7, 3) := by decide +kernel
theorem dX2_isBetterSeller_30 : decode cX2_isBetterSeller 30 = .ok (.iconst 1, 1) := by decide +kernel
theorem dX2_isBetterSeller_31 : decode cX2_isBetterSeller 31 = .ok (.goto 4, 3) := by decide +kernel
theorem dX2_isBetterSeller_34 : decode cX2_isBetterSeller 34 = .ok (.iconst 0, 1) := by decide +kernel
theorem dX2_isBetterSeller_35 : decode cX2_isBetterSeller 35 = .ok (.ireturn, 1) := by decide +kernel
theorem dX2_isBetterSeller_36 : decode cX2_isBetterSeller 36 = .ok (.aload_n 0, 1) := by decide +kernel
theorem dX2_isBetterSeller_37 : decode cX2_isBetterSeller 37 = .ok (.getfield 12, 3) := by decide +kernel
theorem dX2_isBetterSeller_40 : decode cX2_isBetterSeller 40 = .ok (.getfield 144, 3) := by decide +kernel
theorem dX2_isBetterSeller_43 : decode cX2_isBetterSeller 43 = .ok (.iload_n 1, 1) := by decide +kernel
theorem dX2_isBetterSeller_44 : decode cX2_isBetterSeller 44 = .ok (.iaload, 1) := by decide +kernel
theorem dX2_isBetterSeller_45 : decode cX2_isBetterSeller 45 = .ok (.aload_n 0, 1) := by decide +kernel
theorem dX2_isBetterSeller_46 : decode cX2_isBetterSeller 46 = .ok (.getfield 12, 3) := by decide +kernel
theorem dX2_isBetterSeller_49 : decode cX2_isBetterSeller 49 = .ok (.getfield 144, 3) := by decide +kernel
theorem dX2_isBetterSeller_52 : decode cX2_isBetterSeller 52 = .ok (.iload_n 2, 1) := by decide +kernel
theorem dX2_isBetterSeller_53 : decode cX2_isBetterSeller 53 = .ok (.iaload, 1) := by decide +kernel
theorem dX2_isBetterSeller_54 : decode cX2_isBetterSeller 54 = .ok (.if_icmp .ge 7, 3) := by decide +kernel
theorem dX2_isBetterSeller_57 : decode cX2_isBetterSeller 57 = .ok (.iconst 1, 1) := by decide +kernel
theorem dX2_isBetterSeller_58 : decode cX2_isBetterSeller 58 = .ok (.goto 4, 3) := by decide +kernel
theorem dX2_isBetterSeller_61 : decode cX2_isBetterSeller 61 = .ok (.iconst 0, 1) := by decide +kernel
theorem dX2_isBetterSeller_62 : decode cX2_isBetterSeller 62 = .ok (.ireturn, 1) := by decide +kernel
theorem okX2_isBetterSeller : CalOK yX2_isBetterSeller cX2_isBetterSeller 3 (some .boolean) 2 := ⟨wd_17, wd_515, by decide +kernel⟩
theorem ovX2_isBetterSeller : VirOK yX2_isBetterSeller := ⟨wd_514, wd_12⟩
def FX2_isBetterSeller (B : Blk) (l1 : Int32) (l2 : Int32) : Option Int32 :=
  ld (B 19) 24 l1 fun v1 =>
  ld (B 19) 24 l2 fun v4 =>
  if v1 = v4 then
    ld (B 11) 24 l1 fun v8 =>
    ld (B 11) 24 l2 fun v11 =>
    if v11 ≤ v8 then
      some (0 : Int32)
    else
      some (1 : Int32)
  else
    ld (B 19) 24 l1 fun v15 =>
    ld (B 19) 24 l2 fun v18 =>
    if v18 ≤ v15 then
      some (0 : Int32)
    else
      some (1 : Int32)
set_option maxRecDepth 100000 in
set_option maxHeartbeats 4000000 in
theorem wX2_isBetterSeller {E : WE} {V : VT} {A : Nat → Prop} {H0 : Heap} {M : Mem} {j : Nat} (hj : j < 11) (Cx : CX E RX2 cX2_isBetterSeller 3 0 0) {r : Int32} {B : Blk} (hret : RetI E V A H0 cX2_isBetterSeller .boolean r (jb M j B)) {H : Heap} {locs : List Loc} {ls : Array Slot} {l1 : Int32} {l2 : Int32} (hW : Wd V A H0 (jb M j B) (eS E) H locs) (hl : lv_has ls 3 [(0, .ref (vA V j 0)), (1, .int l1), (2, .int l2)]) (hF : FX2_isBetterSeller B l1 l2 = some r) : Wq E H locs 0 ls [] := by
  unfold FX2_isBetterSeller at hF
  refine q_aload_n Cx dX2_isBetterSeller_0 rfl (lv_at hl 0 rfl) ?_
  refine q_get (v := .ref (vA V j 19)) Cx hW (oM hj) ic2 7 (by decide) rfl wd_124 dX2_isBetterSeller_1 ?_
  refine q_iload_n Cx dX2_isBetterSeller_4 rfl (lv_at hl 1 rfl) ?_
  obtain ⟨h2, v1, e3, hF⟩ := ld_some hF
  refine qb_iald Cx hW (ai_19 hj) h2 e3 dX2_isBetterSeller_5 ?_
  refine q_aload_n Cx dX2_isBetterSeller_6 rfl (lv_at hl 0 rfl) ?_
  refine q_get (v := .ref (vA V j 19)) Cx hW (oM hj) ic2 7 (by decide) rfl wd_124 dX2_isBetterSeller_7 ?_
  refine q_iload_n Cx dX2_isBetterSeller_10 rfl (lv_at hl 2 rfl) ?_
  obtain ⟨h5, v4, e6, hF⟩ := ld_some hF
  refine qb_iald Cx hW (ai_19 hj) h5 e6 dX2_isBetterSeller_11 ?_
  refine q_icmp_eq (tgt := 36) Cx dX2_isBetterSeller_12 (by decide) (fun c7 => ?_) (fun c7 => ?_)
  · have hF := (if_pos c7).symm.trans hF
    refine q_aload_n Cx dX2_isBetterSeller_36 rfl (lv_at hl 0 rfl) ?_
    refine q_get (v := .ref (vA V j 1)) Cx hW (oM hj) ic2 0 (by decide) rfl wd_113 dX2_isBetterSeller_37 ?_
    refine q_get (v := .ref (vA V j 11)) Cx hW (oP hj) ic4 9 (by decide) rfl wd_61 dX2_isBetterSeller_40 ?_
    refine q_iload_n Cx dX2_isBetterSeller_43 rfl (lv_at hl 1 rfl) ?_
    obtain ⟨h9, v8, e10, hF⟩ := ld_some hF
    refine qb_iald Cx hW (ai_11 hj) h9 e10 dX2_isBetterSeller_44 ?_
    refine q_aload_n Cx dX2_isBetterSeller_45 rfl (lv_at hl 0 rfl) ?_
    refine q_get (v := .ref (vA V j 1)) Cx hW (oM hj) ic2 0 (by decide) rfl wd_113 dX2_isBetterSeller_46 ?_
    refine q_get (v := .ref (vA V j 11)) Cx hW (oP hj) ic4 9 (by decide) rfl wd_61 dX2_isBetterSeller_49 ?_
    refine q_iload_n Cx dX2_isBetterSeller_52 rfl (lv_at hl 2 rfl) ?_
    obtain ⟨h12, v11, e13, hF⟩ := ld_some hF
    refine qb_iald Cx hW (ai_11 hj) h12 e13 dX2_isBetterSeller_53 ?_
    refine q_icmp_ge (tgt := 61) Cx dX2_isBetterSeller_54 (by decide) (fun c14 => ?_) (fun c14 => ?_)
    · have hF := (if_pos c14).symm.trans hF
      refine q_iconst (v := (0 : Int32)) Cx dX2_isBetterSeller_61 (by decide) ?_
      obtain rfl := Option.some.inj hF
      exact hret _ _ _ _ dX2_isBetterSeller_62 (by rfl) hW
    · have hF := (if_neg c14).symm.trans hF
      refine q_iconst (v := (1 : Int32)) Cx dX2_isBetterSeller_57 (by decide) ?_
      refine q_goto (tgt := 62) Cx dX2_isBetterSeller_58 (by decide) ?_
      obtain rfl := Option.some.inj hF
      exact hret _ _ _ _ dX2_isBetterSeller_62 (by rfl) hW
  · have hF := (if_neg c7).symm.trans hF
    refine q_aload_n Cx dX2_isBetterSeller_15 rfl (lv_at hl 0 rfl) ?_
    refine q_get (v := .ref (vA V j 19)) Cx hW (oM hj) ic2 7 (by decide) rfl wd_124 dX2_isBetterSeller_16 ?_
    refine q_iload_n Cx dX2_isBetterSeller_19 rfl (lv_at hl 1 rfl) ?_
    obtain ⟨h16, v15, e17, hF⟩ := ld_some hF
    refine qb_iald Cx hW (ai_19 hj) h16 e17 dX2_isBetterSeller_20 ?_
    refine q_aload_n Cx dX2_isBetterSeller_21 rfl (lv_at hl 0 rfl) ?_
    refine q_get (v := .ref (vA V j 19)) Cx hW (oM hj) ic2 7 (by decide) rfl wd_124 dX2_isBetterSeller_22 ?_
    refine q_iload_n Cx dX2_isBetterSeller_25 rfl (lv_at hl 2 rfl) ?_
    obtain ⟨h19, v18, e20, hF⟩ := ld_some hF
    refine qb_iald Cx hW (ai_19 hj) h19 e20 dX2_isBetterSeller_26 ?_
    refine q_icmp_ge (tgt := 34) Cx dX2_isBetterSeller_27 (by decide) (fun c21 => ?_) (fun c21 => ?_)
    · have hF := (if_pos c21).symm.trans hF
      refine q_iconst (v := (0 : Int32)) Cx dX2_isBetterSeller_34 (by decide) ?_
      obtain rfl := Option.some.inj hF
      exact hret _ _ _ _ dX2_isBetterSeller_35 (by rfl) hW
    · have hF := (if_neg c21).symm.trans hF
      refine q_iconst (v := (1 : Int32)) Cx dX2_isBetterSeller_30 (by decide) ?_
      refine q_goto (tgt := 35) Cx dX2_isBetterSeller_31 (by decide) ?_
      obtain rfl := Option.some.inj hF
      exact hret _ _ _ _ dX2_isBetterSeller_35 (by rfl) hW
set_option maxRecDepth 100000 in
theorem kX2_isBetterSeller {l : Launch} {V : VT} {M : Mem} {j : Nat} (hj : j < 11) {B : Blk} {l1 : Int32} {l2 : Int32} {r : Int32} (hF : FX2_isBetterSeller B l1 l2 = some r) : MetI l V yX2_isBetterSeller cX2_isBetterSeller 3 .boolean ({ frames := 0, cells := 0, slots := 0, locals := 0 } : Room) [.ref (vA V j 0), .int l1, .int l2] r (jb M j B) (jb M j B) := metI_of (by decide) (Nat.le_of_ble_eq_true rfl) (fun E H0 _ Cx hret H locs ls hW hl => wX2_isBetterSeller hj Cx hret hW hl hF)
theorem dX2_bestSellerExcept_0 : decode cX2_bestSellerExcept 0 = .ok (.bipush (-6), 2) := by decide +kernel
theorem dX2_bestSellerExcept_2 : decode cX2_bestSellerExcept 2 = .ok (.istore_n 2, 1) := by decide +kernel
theorem dX2_bestSellerExcept_3 : decode cX2_bestSellerExcept 3 = .ok (.iconst 0, 1) := by decide +kernel
theorem dX2_bestSellerExcept_4 : decode cX2_bestSellerExcept 4 = .ok (.istore_n 3, 1) := by decide +kernel
theorem dX2_bestSellerExcept_5 : decode cX2_bestSellerExcept 5 = .ok (.iload_n 3, 1) := by decide +kernel
theorem dX2_bestSellerExcept_6 : decode cX2_bestSellerExcept 6 = .ok (.aload_n 0, 1) := by decide +kernel
theorem dX2_bestSellerExcept_7 : decode cX2_bestSellerExcept 7 = .ok (.getfield 12, 3) := by decide +kernel
theorem dX2_bestSellerExcept_10 : decode cX2_bestSellerExcept 10 = .ok (.getfield 66, 3) := by decide +kernel
theorem dX2_bestSellerExcept_13 : decode cX2_bestSellerExcept 13 = .ok (.if_icmp .ge 42, 3) := by decide +kernel
theorem dX2_bestSellerExcept_16 : decode cX2_bestSellerExcept 16 = .ok (.iload_n 1, 1) := by decide +kernel
theorem dX2_bestSellerExcept_17 : decode cX2_bestSellerExcept 17 = .ok (.iload_n 3, 1) := by decide +kernel
theorem dX2_bestSellerExcept_18 : decode cX2_bestSellerExcept 18 = .ok (.ishr, 1) := by decide +kernel
theorem dX2_bestSellerExcept_19 : decode cX2_bestSellerExcept 19 = .ok (.iconst 1, 1) := by decide +kernel
theorem dX2_bestSellerExcept_20 : decode cX2_bestSellerExcept 20 = .ok (.iand, 1) := by decide +kernel
theorem dX2_bestSellerExcept_21 : decode cX2_bestSellerExcept 21 = .ok (.ifCond .ne 28, 3) := by decide +kernel
theorem dX2_bestSellerExcept_24 : decode cX2_bestSellerExcept 24 = .ok (.aload_n 0, 1) := by decide +kernel
theorem dX2_bestSellerExcept_25 : decode cX2_bestSellerExcept 25 = .ok (.iload_n 3, 1) := by decide +kernel
theorem dX2_bestSellerExcept_26 : decode cX2_bestSellerExcept 26 = .ok (.invokevirtual 137, 3) := by decide +kernel
theorem dX2_bestSellerExcept_29 : decode cX2_bestSellerExcept 29 = .ok (.ifCond .eq 20, 3) := by decide +kernel
theorem dX2_bestSellerExcept_32 : decode cX2_bestSellerExcept 32 = .ok (.iload_n 2, 1) := by decide +kernel
theorem dX2_bestSellerExcept_33 : decode cX2_bestSellerExcept 33 = .ok (.bipush (-6), 2) := by decide +kernel
theorem dX2_bestSellerExcept_35 : decode cX2_bestSellerExcept 35 = .ok (.if_icmp .eq 12, 3) := by decide +kernel
theorem dX2_bestSellerExcept_38 : decode cX2_bestSellerExcept 38 = .ok (.aload_n 0, 1) := by decide +kernel
theorem dX2_bestSellerExcept_39 : decode cX2_bestSellerExcept 39 = .ok (.iload_n 3, 1) := by decide +kernel
theorem dX2_bestSellerExcept_40 : decode cX2_bestSellerExcept 40 = .ok (.iload_n 2, 1) := by decide +kernel
theorem dX2_bestSellerExcept_41 : decode cX2_bestSellerExcept 41 = .ok (.invokevirtual 140, 3) := by decide +kernel
theorem dX2_bestSellerExcept_44 : decode cX2_bestSellerExcept 44 = .ok (.ifCond .eq 5, 3) := by decide +kernel
theorem dX2_bestSellerExcept_47 : decode cX2_bestSellerExcept 47 = .ok (.iload_n 3, 1) := by decide +kernel
theorem dX2_bestSellerExcept_48 : decode cX2_bestSellerExcept 48 = .ok (.istore_n 2, 1) := by decide +kernel
theorem dX2_bestSellerExcept_49 : decode cX2_bestSellerExcept 49 = .ok (.iinc 3 1, 3) := by decide +kernel
theorem dX2_bestSellerExcept_52 : decode cX2_bestSellerExcept 52 = .ok (.goto (-47), 3) := by decide +kernel
theorem dX2_bestSellerExcept_55 : decode cX2_bestSellerExcept 55 = .ok (.iload_n 2, 1) := by decide +kernel
theorem dX2_bestSellerExcept_56 : decode cX2_bestSellerExcept 56 = .ok (.ireturn, 1) := by decide +kernel
theorem okX2_bestSellerExcept : CalOK yX2_bestSellerExcept cX2_bestSellerExcept 4 (some .int) 1 := ⟨wd_17, wd_507, by decide +kernel⟩
theorem ovX2_bestSellerExcept : VirOK yX2_bestSellerExcept := ⟨wd_506, wd_10⟩
def FX2_bestSellerExcept_47 (B : Blk) (k5 : Int32 → Int32 → Int32 → Option Int32) (l1 : Int32) (l3 : Int32) : Option Int32 :=
  lt1 (l3 + (1 : Int32)) fun x11 =>
  k5 l1 l3 x11
set_option maxRecDepth 100000 in
set_option maxHeartbeats 4000000 in
theorem wX2_bestSellerExcept_47 {E : WE} {V : VT} {A : Nat → Prop} {H0 : Heap} {M : Mem} {j : Nat} (hj : j < 11) (Cx : CX E RX2 cX2_bestSellerExcept 4 1 22) {r : Int32} {B : Blk} (hret : RetI E V A H0 cX2_bestSellerExcept .int r (jb M j B)) {k5 : Int32 → Int32 → Int32 → Option Int32} (hk5 : ∀ {H : Heap} {locs : List Loc} {ls : Array Slot} {l1 : Int32} {l2 : Int32} {l3 : Int32}, Wd V A H0 (jb M j B) (eS E) H locs → lv_has ls 4 [(0, .ref (vA V j 0)), (1, .int l1), (2, .int l2), (3, .int l3)] → k5 l1 l2 l3 = some r → Wq E H locs 5 ls []) {H : Heap} {locs : List Loc} {ls : Array Slot} {l1 : Int32} {l3 : Int32} (hW : Wd V A H0 (jb M j B) (eS E) H locs) (hl : lv_has ls 4 [(0, .ref (vA V j 0)), (1, .int l1), (3, .int l3)]) (hF : FX2_bestSellerExcept_47 B k5 l1 l3 = some r) : Wq E H locs 47 ls [] := by
  unfold FX2_bestSellerExcept_47 at hF
  refine q_iload_n Cx dX2_bestSellerExcept_47 rfl (lv_at hl 2 rfl) ?_
  refine q_istore_n (lv' := [(2, .int l3), (0, .ref (vA V j 0)), (1, .int l1), (3, .int l3)]) Cx dX2_bestSellerExcept_48 rfl hl (by decide) rfl (fun ls hl => ?_)
  obtain ⟨x11, e12, hF⟩ := lt1_some hF
  refine q_iinc (k := 3) (v := x11) (lv' := [(3, .int x11), (2, .int l3), (0, .ref (vA V j 0)), (1, .int l1)]) Cx dX2_bestSellerExcept_49 hl rfl e12.symm (by decide) rfl (fun ls hl => ?_)
  refine q_goto (tgt := 5) Cx dX2_bestSellerExcept_52 (by decide) ?_
  exact hk5 hW (lv_sub hl [2, 3, 1, 0] rfl) hF
def FX2_bestSellerExcept_5s (B : Blk) (k5 : Int32 → Int32 → Int32 → Option Int32) (l1 : Int32) (l2 : Int32) (l3 : Int32) : Option Int32 :=
  if ((B 1) 0) ≤ l3 then
    some l2
  else
    if ((l1 >>> (l3 &&& 31)) &&& (1 : Int32)) = 0 then
      c1 (FX2_isInReach B l3) fun r5 =>
      if r5 = 0 then
        lt1 (l3 + (1 : Int32)) fun x8 =>
        k5 l1 l2 x8
      else
        if l2 = (-6 : Int32) then
          FX2_bestSellerExcept_47 B k5 l1 l3
        else
          c1 (FX2_isBetterSeller B l3 l2) fun r13 =>
          if r13 = 0 then
            lt1 (l3 + (1 : Int32)) fun x16 =>
            k5 l1 l2 x16
          else
            FX2_bestSellerExcept_47 B k5 l1 l3
    else
      lt1 (l3 + (1 : Int32)) fun x3 =>
      k5 l1 l2 x3
set_option maxRecDepth 100000 in
set_option maxHeartbeats 4000000 in
theorem wX2_bestSellerExcept_5s {E : WE} {V : VT} {A : Nat → Prop} {H0 : Heap} {M : Mem} {j : Nat} (hj : j < 11) (Cx : CX E RX2 cX2_bestSellerExcept 4 1 22) {r : Int32} {B : Blk} (hret : RetI E V A H0 cX2_bestSellerExcept .int r (jb M j B)) {k5 : Int32 → Int32 → Int32 → Option Int32} (hk5 : ∀ {H : Heap} {locs : List Loc} {ls : Array Slot} {l1 : Int32} {l2 : Int32} {l3 : Int32}, Wd V A H0 (jb M j B) (eS E) H locs → lv_has ls 4 [(0, .ref (vA V j 0)), (1, .int l1), (2, .int l2), (3, .int l3)] → k5 l1 l2 l3 = some r → Wq E H locs 5 ls []) {H : Heap} {locs : List Loc} {ls : Array Slot} {l1 : Int32} {l2 : Int32} {l3 : Int32} (hW : Wd V A H0 (jb M j B) (eS E) H locs) (hl : lv_has ls 4 [(0, .ref (vA V j 0)), (1, .int l1), (2, .int l2), (3, .int l3)]) (hF : FX2_bestSellerExcept_5s B k5 l1 l2 l3 = some r) : Wq E H locs 5 ls [] := by
  unfold FX2_bestSellerExcept_5s at hF
  refine q_iload_n Cx dX2_bestSellerExcept_5 rfl (lv_at hl 3 rfl) ?_
  refine q_aload_n Cx dX2_bestSellerExcept_6 rfl (lv_at hl 0 rfl) ?_
  refine q_get (v := .ref (vA V j 1)) Cx hW (oM hj) ic2 0 (by decide) rfl wd_113 dX2_bestSellerExcept_7 ?_
  refine qb_get (v := .int ((B 1) 0)) Cx hW (oP hj) ic4 0 (by decide) rfl wd_45 dX2_bestSellerExcept_10 ?_
  refine q_icmp_ge (tgt := 55) Cx dX2_bestSellerExcept_13 (by decide) (fun c1 => ?_) (fun c1 => ?_)
  · have hF := (if_pos c1).symm.trans hF
    refine q_iload_n Cx dX2_bestSellerExcept_55 rfl (lv_at hl 2 rfl) ?_
    obtain rfl := Option.some.inj hF
    exact hret _ _ _ _ dX2_bestSellerExcept_56 (nI32 _) hW
  · have hF := (if_neg c1).symm.trans hF
    refine q_iload_n Cx dX2_bestSellerExcept_16 rfl (lv_at hl 1 rfl) ?_
    refine q_iload_n Cx dX2_bestSellerExcept_17 rfl (lv_at hl 3 rfl) ?_
    refine q_ishr Cx dX2_bestSellerExcept_18 ?_
    refine q_iconst (v := (1 : Int32)) Cx dX2_bestSellerExcept_19 (by decide) ?_
    refine q_iand Cx dX2_bestSellerExcept_20 ?_
    refine q_if_ne (tgt := 49) Cx dX2_bestSellerExcept_21 (by decide) (fun c2 => ?_) (fun c2 => ?_)
    · have hF := (if_neg c2).symm.trans hF
      obtain ⟨x3, e4, hF⟩ := lt1_some hF
      refine q_iinc (k := 3) (v := x3) (lv' := [(3, .int x3), (0, .ref (vA V j 0)), (1, .int l1), (2, .int l2)]) Cx dX2_bestSellerExcept_49 hl rfl e4.symm (by decide) rfl (fun ls hl => ?_)
      refine q_goto (tgt := 5) Cx dX2_bestSellerExcept_52 (by decide) ?_
      exact hk5 hW (lv_sub hl [1, 2, 3, 0] rfl) hF
    · have hF := (if_pos c2).symm.trans hF
      refine q_aload_n Cx dX2_bestSellerExcept_24 rfl (lv_at hl 0 rfl) ?_
      refine q_iload_n Cx dX2_bestSellerExcept_25 rfl (lv_at hl 3 rfl) ?_
      obtain ⟨r5, e6, hF⟩ := c1_some hF
      refine q_callI (as := [.int l3]) (rest := []) Cx (kX2_isInReach hj e6) okX2_isInReach ovX2_isInReach wd_508 ⟨rfl, rfl, by decide, by decide⟩ hW (oM hj) ic2 rfl hl.1 (Nat.le_of_ble_eq_true rfl) rfl dX2_bestSellerExcept_26 (fun H locs hW => ?_)
      refine q_if_eq (tgt := 49) Cx dX2_bestSellerExcept_29 (by decide) (fun c7 => ?_) (fun c7 => ?_)
      · have hF := (if_pos c7).symm.trans hF
        obtain ⟨x8, e9, hF⟩ := lt1_some hF
        refine q_iinc (k := 3) (v := x8) (lv' := [(3, .int x8), (0, .ref (vA V j 0)), (1, .int l1), (2, .int l2)]) Cx dX2_bestSellerExcept_49 hl rfl e9.symm (by decide) rfl (fun ls hl => ?_)
        refine q_goto (tgt := 5) Cx dX2_bestSellerExcept_52 (by decide) ?_
        exact hk5 hW (lv_sub hl [1, 2, 3, 0] rfl) hF
      · have hF := (if_neg c7).symm.trans hF
        refine q_iload_n Cx dX2_bestSellerExcept_32 rfl (lv_at hl 2 rfl) ?_
        refine q_bipush (v := (-6 : Int32)) Cx dX2_bestSellerExcept_33 (by decide) ?_
        refine q_icmp_eq (tgt := 47) Cx dX2_bestSellerExcept_35 (by decide) (fun c10 => ?_) (fun c10 => ?_)
        · have hF := (if_pos c10).symm.trans hF
          exact wX2_bestSellerExcept_47 hj Cx hret hk5 hW (lv_sub hl [0, 1, 3] rfl) hF
        · have hF := (if_neg c10).symm.trans hF
          refine q_aload_n Cx dX2_bestSellerExcept_38 rfl (lv_at hl 0 rfl) ?_
          refine q_iload_n Cx dX2_bestSellerExcept_39 rfl (lv_at hl 3 rfl) ?_
          refine q_iload_n Cx dX2_bestSellerExcept_40 rfl (lv_at hl 2 rfl) ?_
          obtain ⟨r13, e14, hF⟩ := c1_some hF
          refine q_callI (as := [.int l3, .int l2]) (rest := []) Cx (kX2_isBetterSeller hj e14) okX2_isBetterSeller ovX2_isBetterSeller wd_512 ⟨rfl, rfl, by decide, by decide⟩ hW (oM hj) ic2 rfl hl.1 (Nat.le_of_ble_eq_true rfl) rfl dX2_bestSellerExcept_41 (fun H locs hW => ?_)
          refine q_if_eq (tgt := 49) Cx dX2_bestSellerExcept_44 (by decide) (fun c15 => ?_) (fun c15 => ?_)
          · have hF := (if_pos c15).symm.trans hF
            obtain ⟨x16, e17, hF⟩ := lt1_some hF
            refine q_iinc (k := 3) (v := x16) (lv' := [(3, .int x16), (0, .ref (vA V j 0)), (1, .int l1), (2, .int l2)]) Cx dX2_bestSellerExcept_49 hl rfl e17.symm (by decide) rfl (fun ls hl => ?_)
            refine q_goto (tgt := 5) Cx dX2_bestSellerExcept_52 (by decide) ?_
            exact hk5 hW (lv_sub hl [1, 2, 3, 0] rfl) hF
          · have hF := (if_neg c15).symm.trans hF
            exact wX2_bestSellerExcept_47 hj Cx hret hk5 hW (lv_sub hl [0, 1, 3] rfl) hF
def FX2_bestSellerExcept_5 (B : Blk) : Nat → Int32 → Int32 → Int32 → Option Int32
  | 0 => fun _ _ _ => none
  | n + 1 => FX2_bestSellerExcept_5s B (FX2_bestSellerExcept_5 B n)
set_option maxRecDepth 100000 in
theorem wX2_bestSellerExcept_5 {E : WE} {V : VT} {A : Nat → Prop} {H0 : Heap} {M : Mem} {j : Nat} (hj : j < 11) (Cx : CX E RX2 cX2_bestSellerExcept 4 1 22) {r : Int32} {B : Blk} (hret : RetI E V A H0 cX2_bestSellerExcept .int r (jb M j B)) : ∀ (n : Nat) {H : Heap} {locs : List Loc} {ls : Array Slot} {l1 : Int32} {l2 : Int32} {l3 : Int32}, Wd V A H0 (jb M j B) (eS E) H locs → lv_has ls 4 [(0, .ref (vA V j 0)), (1, .int l1), (2, .int l2), (3, .int l3)] → FX2_bestSellerExcept_5 B n l1 l2 l3 = some r → Wq E H locs 5 ls [] := by
  intro n
  induction n with
  | zero => intro _ _ _ _ _ _ hW hl hF; cases hF
  | succ n ih => intro _ _ _ _ _ _ hW hl hF; exact wX2_bestSellerExcept_5s hj Cx hret ih hW hl hF
def FX2_bestSellerExcept (B : Blk) (l1 : Int32) : Option Int32 :=
  FX2_bestSellerExcept_5 B fu l1 (-6 : Int32) (0 : Int32)
set_option maxRecDepth 100000 in
set_option maxHeartbeats 4000000 in
theorem wX2_bestSellerExcept {E : WE} {V : VT} {A : Nat → Prop} {H0 : Heap} {M : Mem} {j : Nat} (hj : j < 11) (Cx : CX E RX2 cX2_bestSellerExcept 4 1 22) {r : Int32} {B : Blk} (hret : RetI E V A H0 cX2_bestSellerExcept .int r (jb M j B)) {H : Heap} {locs : List Loc} {ls : Array Slot} {l1 : Int32} (hW : Wd V A H0 (jb M j B) (eS E) H locs) (hl : lv_has ls 4 [(0, .ref (vA V j 0)), (1, .int l1)]) (hF : FX2_bestSellerExcept B l1 = some r) : Wq E H locs 0 ls [] := by
  unfold FX2_bestSellerExcept at hF
  refine q_bipush (v := (-6 : Int32)) Cx dX2_bestSellerExcept_0 (by decide) ?_
  refine q_istore_n (lv' := [(2, .int (-6 : Int32)), (0, .ref (vA V j 0)), (1, .int l1)]) Cx dX2_bestSellerExcept_2 rfl hl (by decide) rfl (fun ls hl => ?_)
  refine q_iconst (v := (0 : Int32)) Cx dX2_bestSellerExcept_3 (by decide) ?_
  refine q_istore_n (lv' := [(3, .int (0 : Int32)), (2, .int (-6 : Int32)), (0, .ref (vA V j 0)), (1, .int l1)]) Cx dX2_bestSellerExcept_4 rfl hl (by decide) rfl (fun ls hl => ?_)
  exact wX2_bestSellerExcept_5 hj Cx hret fu hW (lv_sub hl [2, 3, 1, 0] rfl) hF
set_option maxRecDepth 100000 in
theorem kX2_bestSellerExcept {l : Launch} {V : VT} {M : Mem} {j : Nat} (hj : j < 11) {B : Blk} {l1 : Int32} {r : Int32} (hF : FX2_bestSellerExcept B l1 = some r) : MetI l V yX2_bestSellerExcept cX2_bestSellerExcept 4 .int ({ frames := 1, cells := 0, slots := 0, locals := 22 } : Room) [.ref (vA V j 0), .int l1] r (jb M j B) (jb M j B) := metI_of (by decide) (Nat.le_of_ble_eq_true rfl) (fun E H0 _ Cx hret H locs ls hW hl => wX2_bestSellerExcept hj Cx hret hW hl hF)
theorem dX2_spareOf_0 : decode cX2_spareOf 0 = .ok (.iconst 0, 1) := by decide +kernel
theorem dX2_spareOf_1 : decode cX2_spareOf 1 = .ok (.aload_n 0, 1) := by decide +kernel
theorem dX2_spareOf_2 : decode cX2_spareOf 2 = .ok (.getfield 32, 3) := by decide +kernel
theorem dX2_spareOf_5 : decode cX2_spareOf 5 = .ok (.iload_n 1, 1) := by decide +kernel
theorem dX2_spareOf_6 : decode cX2_spareOf 6 = .ok (.iaload, 1) := by decide +kernel
theorem dX2_spareOf_7 : decode cX2_spareOf 7 = .ok (.aload_n 0, 1) := by decide +kernel
theorem dX2_spareOf_8 : decode cX2_spareOf 8 = .ok (.getfield 12, 3) := by decide +kernel
theorem dX2_spareOf_11 : decode cX2_spareOf 11 = .ok (.getfield 108, 3) := by decide +kernel
theorem dX2_spareOf_14 : decode cX2_spareOf 14 = .ok (.iload_n 1, 1) := by decide +kernel
theorem dX2_spareOf_15 : decode cX2_spareOf 15 = .ok (.iaload, 1) := by decide +kernel
theorem dX2_spareOf_16 : decode cX2_spareOf 16 = .ok (.isub, 1) := by decide +kernel
theorem dX2_spareOf_17 : decode cX2_spareOf 17 = .ok (.invokestatic 158, 3) := by decide +kernel
theorem dX2_spareOf_20 : decode cX2_spareOf 20 = .ok (.ireturn, 1) := by decide +kernel
theorem okX2_spareOf : CalOK yX2_spareOf cX2_spareOf 2 (some .int) 1 := ⟨wd_17, wd_298, by decide +kernel⟩
theorem ovX2_spareOf : VirOK yX2_spareOf := ⟨wd_296, wd_297⟩
def FX2_spareOf (B : Blk) (l1 : Int32) : Option Int32 :=
  ld (B 16) 24 l1 fun v1 =>
  ld (B 6) 24 l1 fun v4 =>
  lt1 (if (0 : Int32) < (v1 - v4) then (v1 - v4) else (0 : Int32)) fun x7 =>
  some x7
set_option maxRecDepth 100000 in
set_option maxHeartbeats 4000000 in
theorem wX2_spareOf {E : WE} {V : VT} {A : Nat → Prop} {H0 : Heap} {M : Mem} {j : Nat} (hj : j < 11) (Cx : CX E RX2 cX2_spareOf 2 1 40) {r : Int32} {B : Blk} (hret : RetI E V A H0 cX2_spareOf .int r (jb M j B)) {H : Heap} {locs : List Loc} {ls : Array Slot} {l1 : Int32} (hW : Wd V A H0 (jb M j B) (eS E) H locs) (hl : lv_has ls 2 [(0, .ref (vA V j 0)), (1, .int l1)]) (hF : FX2_spareOf B l1 = some r) : Wq E H locs 0 ls [] := by
  unfold FX2_spareOf at hF
  refine q_iconst (v := (0 : Int32)) Cx dX2_spareOf_0 (by decide) ?_
  refine q_aload_n Cx dX2_spareOf_1 rfl (lv_at hl 0 rfl) ?_
  refine q_get (v := .ref (vA V j 16)) Cx hW (oM hj) ic2 4 (by decide) rfl wd_119 dX2_spareOf_2 ?_
  refine q_iload_n Cx dX2_spareOf_5 rfl (lv_at hl 1 rfl) ?_
  obtain ⟨h2, v1, e3, hF⟩ := ld_some hF
  refine qb_iald Cx hW (ai_16 hj) h2 e3 dX2_spareOf_6 ?_
  refine q_aload_n Cx dX2_spareOf_7 rfl (lv_at hl 0 rfl) ?_
  refine q_get (v := .ref (vA V j 1)) Cx hW (oM hj) ic2 0 (by decide) rfl wd_113 dX2_spareOf_8 ?_
  refine q_get (v := .ref (vA V j 6)) Cx hW (oP hj) ic4 4 (by decide) rfl wd_53 dX2_spareOf_11 ?_
  refine q_iload_n Cx dX2_spareOf_14 rfl (lv_at hl 1 rfl) ?_
  obtain ⟨h5, v4, e6, hF⟩ := ld_some hF
  refine qb_iald Cx hW (ai_6 hj) h5 e6 dX2_spareOf_15 ?_
  refine q_isub Cx dX2_spareOf_16 ?_
  obtain ⟨x7, e8, hF⟩ := lt1_some hF
  refine q_max Cx wd_294 wd_271 wd_23 wd_272 hl.1 (by decide) (Nat.le_of_ble_eq_true rfl) e8.symm dX2_spareOf_17 ?_
  obtain rfl := Option.some.inj hF
  exact hret _ _ _ _ dX2_spareOf_20 (nI32 _) hW
set_option maxRecDepth 100000 in
theorem kX2_spareOf {l : Launch} {V : VT} {M : Mem} {j : Nat} (hj : j < 11) {B : Blk} {l1 : Int32} {r : Int32} (hF : FX2_spareOf B l1 = some r) : MetI l V yX2_spareOf cX2_spareOf 2 .int ({ frames := 1, cells := 0, slots := 0, locals := 40 } : Room) [.ref (vA V j 0), .int l1] r (jb M j B) (jb M j B) := metI_of (by decide) (Nat.le_of_ble_eq_true rfl) (fun E H0 _ Cx hret H locs ls hW hl => wX2_spareOf hj Cx hret hW hl hF)
theorem dX2_buyFrom_0 : decode cX2_buyFrom 0 = .ok (.aload_n 0, 1) := by decide +kernel
theorem dX2_buyFrom_1 : decode cX2_buyFrom 1 = .ok (.getfield 42, 3) := by decide +kernel
theorem dX2_buyFrom_4 : decode cX2_buyFrom 4 = .ok (.iload_n 1, 1) := by decide +kernel
theorem dX2_buyFrom_5 : decode cX2_buyFrom 5 = .ok (.iaload, 1) := by decide +kernel
theorem dX2_buyFrom_6 : decode cX2_buyFrom 6 = .ok (.istore_n 3, 1) := by decide +kernel
theorem dX2_buyFrom_7 : decode cX2_buyFrom 7 = .ok (.aload_n 0, 1) := by decide +kernel
theorem dX2_buyFrom_8 : decode cX2_buyFrom 8 = .ok (.iload_n 2, 1) := by decide +kernel
theorem dX2_buyFrom_9 : decode cX2_buyFrom 9 = .ok (.invokevirtual 125, 3) := by decide +kernel
theorem dX2_buyFrom_12 : decode cX2_buyFrom 12 = .ok (.aload_n 0, 1) := by decide +kernel
theorem dX2_buyFrom_13 : decode cX2_buyFrom 13 = .ok (.getfield 39, 3) := by decide +kernel
theorem dX2_buyFrom_16 : decode cX2_buyFrom 16 = .ok (.iload_n 1, 1) := by decide +kernel
theorem dX2_buyFrom_17 : decode cX2_buyFrom 17 = .ok (.iaload, 1) := by decide +kernel
theorem dX2_buyFrom_18 : decode cX2_buyFrom 18 = .ok (.aload_n 0, 1) := by decide +kernel
theorem dX2_buyFrom_19 : decode cX2_buyFrom 19 = .ok (.iload_n 1, 1) := by decide +kernel
theorem dX2_buyFrom_20 : decode cX2_buyFrom 20 = .ok (.invokevirtual 147, 3) := by decide +kernel
theorem dX2_buyFrom_23 : decode cX2_buyFrom 23 = .ok (.invokestatic 150, 3) := by decide +kernel
theorem dX2_buyFrom_26 : decode cX2_buyFrom 26 = .ok (.invokestatic 150, 3) := by decide +kernel
theorem dX2_buyFrom_29 : decode cX2_buyFrom 29 = .ok (.istore 4, 2) := by decide +kernel
theorem dX2_buyFrom_31 : decode cX2_buyFrom 31 = .ok (.iload_n 3, 1) := by decide +kernel
theorem dX2_buyFrom_32 : decode cX2_buyFrom 32 = .ok (.ifCond .le 18, 3) := by decide +kernel
theorem dX2_buyFrom_35 : decode cX2_buyFrom 35 = .ok (.iload 4, 2) := by decide +kernel
theorem dX2_buyFrom_37 : decode cX2_buyFrom 37 = .ok (.aload_n 0, 1) := by decide +kernel
theorem dX2_buyFrom_38 : decode cX2_buyFrom 38 = .ok (.getfield 36, 3) := by decide +kernel
theorem dX2_buyFrom_41 : decode cX2_buyFrom 41 = .ok (.iload_n 2, 1) := by decide +kernel
theorem dX2_buyFrom_42 : decode cX2_buyFrom 42 = .ok (.iaload, 1) := by decide +kernel
theorem dX2_buyFrom_43 : decode cX2_buyFrom 43 = .ok (.iload_n 3, 1) := by decide +kernel
theorem dX2_buyFrom_44 : decode cX2_buyFrom 44 = .ok (.idiv, 1) := by decide +kernel
theorem dX2_buyFrom_45 : decode cX2_buyFrom 45 = .ok (.invokestatic 150, 3) := by decide +kernel
theorem dX2_buyFrom_48 : decode cX2_buyFrom 48 = .ok (.istore 4, 2) := by decide +kernel
theorem dX2_buyFrom_50 : decode cX2_buyFrom 50 = .ok (.iload 4, 2) := by decide +kernel
theorem dX2_buyFrom_52 : decode cX2_buyFrom 52 = .ok (.ifCond .le 18, 3) := by decide +kernel
theorem dX2_buyFrom_55 : decode cX2_buyFrom 55 = .ok (.aload_n 0, 1) := by decide +kernel
theorem dX2_buyFrom_56 : decode cX2_buyFrom 56 = .ok (.getfield 21, 3) := by decide +kernel
theorem dX2_buyFrom_59 : decode cX2_buyFrom 59 = .ok (.iload_n 1, 1) := by decide +kernel
theorem dX2_buyFrom_60 : decode cX2_buyFrom 60 = .ok (.iload_n 2, 1) := by decide +kernel
theorem dX2_buyFrom_61 : decode cX2_buyFrom 61 = .ok (.iload 4, 2) := by decide +kernel
theorem dX2_buyFrom_63 : decode cX2_buyFrom 63 = .ok (.iload_n 3, 1) := by decide +kernel
theorem dX2_buyFrom_64 : decode cX2_buyFrom 64 = .ok (.invokevirtual 155, 3) := by decide +kernel
theorem dX2_buyFrom_67 : decode cX2_buyFrom 67 = .ok (.ifCond .ne 4, 3) := by decide +kernel
theorem dX2_buyFrom_70 : decode cX2_buyFrom 70 = .ok (.return_, 1) := by decide +kernel
theorem dX2_buyFrom_71 : decode cX2_buyFrom 71 = .ok (.aload_n 0, 1) := by decide +kernel
theorem dX2_buyFrom_72 : decode cX2_buyFrom 72 = .ok (.getfield 32, 3) := by decide +kernel
theorem dX2_buyFrom_75 : decode cX2_buyFrom 75 = .ok (.iload_n 1, 1) := by decide +kernel
theorem dX2_buyFrom_76 : decode cX2_buyFrom 76 = .ok (.dup2, 1) := by decide +kernel
theorem dX2_buyFrom_77 : decode cX2_buyFrom 77 = .ok (.iaload, 1) := by decide +kernel
theorem dX2_buyFrom_78 : decode cX2_buyFrom 78 = .ok (.iload 4, 2) := by decide +kernel
theorem dX2_buyFrom_80 : decode cX2_buyFrom 80 = .ok (.isub, 1) := by decide +kernel
theorem dX2_buyFrom_81 : decode cX2_buyFrom 81 = .ok (.iastore, 1) := by decide +kernel
theorem dX2_buyFrom_82 : decode cX2_buyFrom 82 = .ok (.aload_n 0, 1) := by decide +kernel
theorem dX2_buyFrom_83 : decode cX2_buyFrom 83 = .ok (.getfield 32, 3) := by decide +kernel
theorem dX2_buyFrom_86 : decode cX2_buyFrom 86 = .ok (.iload_n 2, 1) := by decide +kernel
theorem dX2_buyFrom_87 : decode cX2_buyFrom 87 = .ok (.dup2, 1) := by decide +kernel
theorem dX2_buyFrom_88 : decode cX2_buyFrom 88 = .ok (.iaload, 1) := by decide +kernel
theorem dX2_buyFrom_89 : decode cX2_buyFrom 89 = .ok (.iload 4, 2) := by decide +kernel
theorem dX2_buyFrom_91 : decode cX2_buyFrom 91 = .ok (.iadd, 1) := by decide +kernel
theorem dX2_buyFrom_92 : decode cX2_buyFrom 92 = .ok (.iastore, 1) := by decide +kernel
theorem dX2_buyFrom_93 : decode cX2_buyFrom 93 = .ok (.aload_n 0, 1) := by decide +kernel
theorem dX2_buyFrom_94 : decode cX2_buyFrom 94 = .ok (.getfield 36, 3) := by decide +kernel
theorem dX2_buyFrom_97 : decode cX2_buyFrom 97 = .ok (.iload_n 2, 1) := by decide +kernel
theorem dX2_buyFrom_98 : decode cX2_buyFrom 98 = .ok (.dup2, 1) := by decide +kernel
theorem dX2_buyFrom_99 : decode cX2_buyFrom 99 = .ok (.iaload, 1) := by decide +kernel
theorem dX2_buyFrom_100 : decode cX2_buyFrom 100 = .ok (.iload 4, 2) := by decide +kernel
theorem dX2_buyFrom_102 : decode cX2_buyFrom 102 = .ok (.iload_n 3, 1) := by decide +kernel
theorem dX2_buyFrom_103 : decode cX2_buyFrom 103 = .ok (.imul, 1) := by decide +kernel
theorem dX2_buyFrom_104 : decode cX2_buyFrom 104 = .ok (.isub, 1) := by decide +kernel
theorem dX2_buyFrom_105 : decode cX2_buyFrom 105 = .ok (.iastore, 1) := by decide +kernel
theorem dX2_buyFrom_106 : decode cX2_buyFrom 106 = .ok (.aload_n 0, 1) := by decide +kernel
theorem dX2_buyFrom_107 : decode cX2_buyFrom 107 = .ok (.getfield 36, 3) := by decide +kernel
theorem dX2_buyFrom_110 : decode cX2_buyFrom 110 = .ok (.iload_n 1, 1) := by decide +kernel
theorem dX2_buyFrom_111 : decode cX2_buyFrom 111 = .ok (.dup2, 1) := by decide +kernel
theorem dX2_buyFrom_112 : decode cX2_buyFrom 112 = .ok (.iaload, 1) := by decide +kernel
theorem dX2_buyFrom_113 : decode cX2_buyFrom 113 = .ok (.iload 4, 2) := by decide +kernel
theorem dX2_buyFrom_115 : decode cX2_buyFrom 115 = .ok (.iload_n 3, 1) := by decide +kernel
theorem dX2_buyFrom_116 : decode cX2_buyFrom 116 = .ok (.imul, 1) := by decide +kernel
theorem dX2_buyFrom_117 : decode cX2_buyFrom 117 = .ok (.iadd, 1) := by decide +kernel
theorem dX2_buyFrom_118 : decode cX2_buyFrom 118 = .ok (.iastore, 1) := by decide +kernel
theorem dX2_buyFrom_119 : decode cX2_buyFrom 119 = .ok (.aload_n 0, 1) := by decide +kernel
theorem dX2_buyFrom_120 : decode cX2_buyFrom 120 = .ok (.iload_n 1, 1) := by decide +kernel
theorem dX2_buyFrom_121 : decode cX2_buyFrom 121 = .ok (.aload_n 0, 1) := by decide +kernel
theorem dX2_buyFrom_122 : decode cX2_buyFrom 122 = .ok (.getfield 39, 3) := by decide +kernel
theorem dX2_buyFrom_125 : decode cX2_buyFrom 125 = .ok (.iload_n 1, 1) := by decide +kernel
theorem dX2_buyFrom_126 : decode cX2_buyFrom 126 = .ok (.iaload, 1) := by decide +kernel
theorem dX2_buyFrom_127 : decode cX2_buyFrom 127 = .ok (.iload 4, 2) := by decide +kernel
theorem dX2_buyFrom_129 : decode cX2_buyFrom 129 = .ok (.isub, 1) := by decide +kernel
theorem dX2_buyFrom_130 : decode cX2_buyFrom 130 = .ok (.iload_n 3, 1) := by decide +kernel
theorem dX2_buyFrom_131 : decode cX2_buyFrom 131 = .ok (.invokevirtual 94, 3) := by decide +kernel
theorem dX2_buyFrom_134 : decode cX2_buyFrom 134 = .ok (.return_, 1) := by decide +kernel
theorem okX2_buyFrom : CalOK yX2_buyFrom cX2_buyFrom 5 (none) 2 := ⟨wd_17, wd_519, by decide +kernel⟩
theorem ovX2_buyFrom : VirOK yX2_buyFrom := ⟨wd_518, wd_13⟩
def FX2_buyFrom_50 (l1 : Int32) (l2 : Int32) (l3 : Int32) (l4 : Int32) (B : Blk) : Option Blk :=
  if l4 ≤ 0 then
    some B
  else
    c2 (FX0_append B l1 l2 l4 l3) fun r17 B19 =>
    if r17 = 0 then
      some B19
    else
      ld (B19 16) 24 l1 fun v21 =>
      stb B19 16 24 l1 (v21 - l4) fun B24 =>
      ld (B24 16) 24 l2 fun v27 =>
      stb B24 16 24 l2 (v27 + l4) fun B30 =>
      ld (B30 17) 24 l2 fun v33 =>
      stb B30 17 24 l2 (v33 - (l4 * l3)) fun B36 =>
      ld (B36 17) 24 l1 fun v39 =>
      stb B36 17 24 l1 (v39 + (l4 * l3)) fun B42 =>
      ld (B42 18) 24 l1 fun v45 =>
      c1 (FX2_setOffer B42 l1 (v45 - l4) l3) fun B50 =>
      some B50
set_option maxRecDepth 100000 in
set_option maxHeartbeats 4000000 in
theorem wX2_buyFrom_50 {E : WE} {V : VT} {A : Nat → Prop} {H0 : Heap} {M : Mem} {j : Nat} (hj : j < 11) (Cx : CX E RX2 cX2_buyFrom 5 2 61) {B' : Blk} (hret : RetV E V A H0 cX2_buyFrom (jb M j B')) {H : Heap} {locs : List Loc} {ls : Array Slot} {l1 : Int32} {l2 : Int32} {l3 : Int32} {l4 : Int32} {B : Blk} (hW : Wd V A H0 (jb M j B) (eS E) H locs) (hl : lv_has ls 5 [(0, .ref (vA V j 0)), (1, .int l1), (2, .int l2), (3, .int l3), (4, .int l4)]) (hF : FX2_buyFrom_50 l1 l2 l3 l4 B = some B') : Wq E H locs 50 ls [] := by
  unfold FX2_buyFrom_50 at hF
  refine q_iload Cx dX2_buyFrom_50 (lv_at hl 4 rfl) ?_
  refine q_if_le (tgt := 70) Cx dX2_buyFrom_52 (by decide) (fun c16 => ?_) (fun c16 => ?_)
  · have hF := (if_pos c16).symm.trans hF
    obtain rfl := Option.some.inj hF
    exact hret _ _ _ _ dX2_buyFrom_70 hW
  · have hF := (if_neg c16).symm.trans hF
    refine q_aload_n Cx dX2_buyFrom_55 rfl (lv_at hl 0 rfl) ?_
    refine q_get (v := .ref (vA V j 2)) Cx hW (oM hj) ic2 1 (by decide) rfl wd_115 dX2_buyFrom_56 ?_
    refine q_iload_n Cx dX2_buyFrom_59 rfl (lv_at hl 1 rfl) ?_
    refine q_iload_n Cx dX2_buyFrom_60 rfl (lv_at hl 2 rfl) ?_
    refine q_iload Cx dX2_buyFrom_61 (lv_at hl 4 rfl) ?_
    refine q_iload_n Cx dX2_buyFrom_63 rfl (lv_at hl 3 rfl) ?_
    obtain ⟨r17, B19, e18, hF⟩ := c2_some hF
    refine q_callI (as := [.int l1, .int l2, .int l4, .int l3]) (rest := []) Cx (kX0_append hj e18) okX0_append ovX0_append wd_520 ⟨rfl, rfl, by decide, by decide⟩ hW (oC hj) ic0 rfl hl.1 (Nat.le_of_ble_eq_true rfl) rfl dX2_buyFrom_64 (fun H locs hW => ?_)
    refine q_if_ne (tgt := 71) Cx dX2_buyFrom_67 (by decide) (fun c20 => ?_) (fun c20 => ?_)
    · have hF := (if_neg c20).symm.trans hF
      refine q_aload_n Cx dX2_buyFrom_71 rfl (lv_at hl 0 rfl) ?_
      refine q_get (v := .ref (vA V j 16)) Cx hW (oM hj) ic2 4 (by decide) rfl wd_119 dX2_buyFrom_72 ?_
      refine q_iload_n Cx dX2_buyFrom_75 rfl (lv_at hl 1 rfl) ?_
      refine q_dup2 Cx dX2_buyFrom_76 rfl rfl ?_
      obtain ⟨h22, v21, e23, hF⟩ := ld_some hF
      refine qb_iald Cx hW (ai_16 hj) h22 e23 dX2_buyFrom_77 ?_
      refine q_iload Cx dX2_buyFrom_78 (lv_at hl 4 rfl) ?_
      refine q_isub Cx dX2_buyFrom_80 ?_
      obtain ⟨h25, B24, e26, hF⟩ := stb_some hF
      refine qb_iast Cx hW (ai_16 hj) h25 e26 dX2_buyFrom_81 (fun H locs hW => ?_)
      refine q_aload_n Cx dX2_buyFrom_82 rfl (lv_at hl 0 rfl) ?_
      refine q_get (v := .ref (vA V j 16)) Cx hW (oM hj) ic2 4 (by decide) rfl wd_119 dX2_buyFrom_83 ?_
      refine q_iload_n Cx dX2_buyFrom_86 rfl (lv_at hl 2 rfl) ?_
      refine q_dup2 Cx dX2_buyFrom_87 rfl rfl ?_
      obtain ⟨h28, v27, e29, hF⟩ := ld_some hF
      refine qb_iald Cx hW (ai_16 hj) h28 e29 dX2_buyFrom_88 ?_
      refine q_iload Cx dX2_buyFrom_89 (lv_at hl 4 rfl) ?_
      refine q_iadd Cx dX2_buyFrom_91 ?_
      obtain ⟨h31, B30, e32, hF⟩ := stb_some hF
      refine qb_iast Cx hW (ai_16 hj) h31 e32 dX2_buyFrom_92 (fun H locs hW => ?_)
      refine q_aload_n Cx dX2_buyFrom_93 rfl (lv_at hl 0 rfl) ?_
      refine q_get (v := .ref (vA V j 17)) Cx hW (oM hj) ic2 5 (by decide) rfl wd_121 dX2_buyFrom_94 ?_
      refine q_iload_n Cx dX2_buyFrom_97 rfl (lv_at hl 2 rfl) ?_
      refine q_dup2 Cx dX2_buyFrom_98 rfl rfl ?_
      obtain ⟨h34, v33, e35, hF⟩ := ld_some hF
      refine qb_iald Cx hW (ai_17 hj) h34 e35 dX2_buyFrom_99 ?_
      refine q_iload Cx dX2_buyFrom_100 (lv_at hl 4 rfl) ?_
      refine q_iload_n Cx dX2_buyFrom_102 rfl (lv_at hl 3 rfl) ?_
      refine q_imul Cx dX2_buyFrom_103 ?_
      refine q_isub Cx dX2_buyFrom_104 ?_
      obtain ⟨h37, B36, e38, hF⟩ := stb_some hF
      refine qb_iast Cx hW (ai_17 hj) h37 e38 dX2_buyFrom_105 (fun H locs hW => ?_)
      refine q_aload_n Cx dX2_buyFrom_106 rfl (lv_at hl 0 rfl) ?_
      refine q_get (v := .ref (vA V j 17)) Cx hW (oM hj) ic2 5 (by decide) rfl wd_121 dX2_buyFrom_107 ?_
      refine q_iload_n Cx dX2_buyFrom_110 rfl (lv_at hl 1 rfl) ?_
      refine q_dup2 Cx dX2_buyFrom_111 rfl rfl ?_
      obtain ⟨h40, v39, e41, hF⟩ := ld_some hF
      refine qb_iald Cx hW (ai_17 hj) h40 e41 dX2_buyFrom_112 ?_
      refine q_iload Cx dX2_buyFrom_113 (lv_at hl 4 rfl) ?_
      refine q_iload_n Cx dX2_buyFrom_115 rfl (lv_at hl 3 rfl) ?_
      refine q_imul Cx dX2_buyFrom_116 ?_
      refine q_iadd Cx dX2_buyFrom_117 ?_
      obtain ⟨h43, B42, e44, hF⟩ := stb_some hF
      refine qb_iast Cx hW (ai_17 hj) h43 e44 dX2_buyFrom_118 (fun H locs hW => ?_)
      refine q_aload_n Cx dX2_buyFrom_119 rfl (lv_at hl 0 rfl) ?_
      refine q_iload_n Cx dX2_buyFrom_120 rfl (lv_at hl 1 rfl) ?_
      refine q_aload_n Cx dX2_buyFrom_121 rfl (lv_at hl 0 rfl) ?_
      refine q_get (v := .ref (vA V j 18)) Cx hW (oM hj) ic2 6 (by decide) rfl wd_123 dX2_buyFrom_122 ?_
      refine q_iload_n Cx dX2_buyFrom_125 rfl (lv_at hl 1 rfl) ?_
      obtain ⟨h46, v45, e47, hF⟩ := ld_some hF
      refine qb_iald Cx hW (ai_18 hj) h46 e47 dX2_buyFrom_126 ?_
      refine q_iload Cx dX2_buyFrom_127 (lv_at hl 4 rfl) ?_
      refine q_isub Cx dX2_buyFrom_129 ?_
      refine q_iload_n Cx dX2_buyFrom_130 rfl (lv_at hl 3 rfl) ?_
      obtain ⟨B50, e49, hF⟩ := c1_some hF
      refine q_callV (as := [.int l1, .int (v45 - l4), .int l3]) (rest := []) Cx (kX2_setOffer hj e49) okX2_setOffer ovX2_setOffer wd_397 ⟨rfl, rfl, by decide, by decide⟩ hW (oM hj) ic2 rfl hl.1 (Nat.le_of_ble_eq_true rfl) rfl dX2_buyFrom_131 (fun H locs hW => ?_)
      obtain rfl := Option.some.inj hF
      exact hret _ _ _ _ dX2_buyFrom_134 hW
    · have hF := (if_pos c20).symm.trans hF
      obtain rfl := Option.some.inj hF
      exact hret _ _ _ _ dX2_buyFrom_70 hW
def FX2_buyFrom (B : Blk) (l1 : Int32) (l2 : Int32) : Option Blk :=
  ld (B 19) 24 l1 fun v1 =>
  c1 (FX2_lateOf B l2) fun r4 =>
  ld (B 18) 24 l1 fun v6 =>
  c1 (FX2_spareOf B l1) fun r9 =>
  lt1 (if r9 < v6 then r9 else v6) fun x11 =>
  lt1 (if x11 < r4 then x11 else r4) fun x13 =>
  if v1 ≤ 0 then
    FX2_buyFrom_50 l1 l2 v1 x13 B
  else
    ld (B 17) 24 l2 fun v51 =>
    nz v1 <|
    lt1 (if (v51 / v1) < x13 then (v51 / v1) else x13) fun x55 =>
    FX2_buyFrom_50 l1 l2 v1 x55 B
set_option maxRecDepth 100000 in
set_option maxHeartbeats 4000000 in
theorem wX2_buyFrom {E : WE} {V : VT} {A : Nat → Prop} {H0 : Heap} {M : Mem} {j : Nat} (hj : j < 11) (Cx : CX E RX2 cX2_buyFrom 5 2 61) {B' : Blk} (hret : RetV E V A H0 cX2_buyFrom (jb M j B')) {H : Heap} {locs : List Loc} {ls : Array Slot} {l1 : Int32} {l2 : Int32} {B : Blk} (hW : Wd V A H0 (jb M j B) (eS E) H locs) (hl : lv_has ls 5 [(0, .ref (vA V j 0)), (1, .int l1), (2, .int l2)]) (hF : FX2_buyFrom B l1 l2 = some B') : Wq E H locs 0 ls [] := by
  unfold FX2_buyFrom at hF
  refine q_aload_n Cx dX2_buyFrom_0 rfl (lv_at hl 0 rfl) ?_
  refine q_get (v := .ref (vA V j 19)) Cx hW (oM hj) ic2 7 (by decide) rfl wd_124 dX2_buyFrom_1 ?_
  refine q_iload_n Cx dX2_buyFrom_4 rfl (lv_at hl 1 rfl) ?_
  obtain ⟨h2, v1, e3, hF⟩ := ld_some hF
  refine qb_iald Cx hW (ai_19 hj) h2 e3 dX2_buyFrom_5 ?_
  refine q_istore_n (lv' := [(3, .int v1), (0, .ref (vA V j 0)), (1, .int l1), (2, .int l2)]) Cx dX2_buyFrom_6 rfl hl (by decide) rfl (fun ls hl => ?_)
  refine q_aload_n Cx dX2_buyFrom_7 rfl (lv_at hl 1 rfl) ?_
  refine q_iload_n Cx dX2_buyFrom_8 rfl (lv_at hl 3 rfl) ?_
  obtain ⟨r4, e5, hF⟩ := c1_some hF
  refine q_callI (as := [.int l2]) (rest := []) Cx (kX2_lateOf hj e5) okX2_lateOf ovX2_lateOf wd_290 ⟨rfl, rfl, by decide, by decide⟩ hW (oM hj) ic2 rfl hl.1 (Nat.le_of_ble_eq_true rfl) rfl dX2_buyFrom_9 (fun H locs hW => ?_)
  refine q_aload_n Cx dX2_buyFrom_12 rfl (lv_at hl 1 rfl) ?_
  refine q_get (v := .ref (vA V j 18)) Cx hW (oM hj) ic2 6 (by decide) rfl wd_123 dX2_buyFrom_13 ?_
  refine q_iload_n Cx dX2_buyFrom_16 rfl (lv_at hl 2 rfl) ?_
  obtain ⟨h7, v6, e8, hF⟩ := ld_some hF
  refine qb_iald Cx hW (ai_18 hj) h7 e8 dX2_buyFrom_17 ?_
  refine q_aload_n Cx dX2_buyFrom_18 rfl (lv_at hl 1 rfl) ?_
  refine q_iload_n Cx dX2_buyFrom_19 rfl (lv_at hl 2 rfl) ?_
  obtain ⟨r9, e10, hF⟩ := c1_some hF
  refine q_callI (as := [.int l1]) (rest := [.int v6, .int r4]) Cx (kX2_spareOf hj e10) okX2_spareOf ovX2_spareOf wd_295 ⟨rfl, rfl, by decide, by decide⟩ hW (oM hj) ic2 rfl hl.1 (Nat.le_of_ble_eq_true rfl) rfl dX2_buyFrom_20 (fun H locs hW => ?_)
  obtain ⟨x11, e12, hF⟩ := lt1_some hF
  refine q_min Cx wd_316 wd_317 wd_23 wd_318 hl.1 (by decide) (Nat.le_of_ble_eq_true rfl) e12.symm dX2_buyFrom_23 ?_
  obtain ⟨x13, e14, hF⟩ := lt1_some hF
  refine q_min Cx wd_316 wd_317 wd_23 wd_318 hl.1 (by decide) (Nat.le_of_ble_eq_true rfl) e14.symm dX2_buyFrom_26 ?_
  refine q_istore (lv' := [(4, .int x13), (3, .int v1), (0, .ref (vA V j 0)), (1, .int l1), (2, .int l2)]) Cx dX2_buyFrom_29 hl (by decide) rfl (fun ls hl => ?_)
  refine q_iload_n Cx dX2_buyFrom_31 rfl (lv_at hl 1 rfl) ?_
  refine q_if_le (tgt := 50) Cx dX2_buyFrom_32 (by decide) (fun c15 => ?_) (fun c15 => ?_)
  · have hF := (if_pos c15).symm.trans hF
    exact wX2_buyFrom_50 hj Cx hret hW (lv_sub hl [2, 3, 4, 1, 0] rfl) hF
  · have hF := (if_neg c15).symm.trans hF
    refine q_iload Cx dX2_buyFrom_35 (lv_at hl 0 rfl) ?_
    refine q_aload_n Cx dX2_buyFrom_37 rfl (lv_at hl 2 rfl) ?_
    refine q_get (v := .ref (vA V j 17)) Cx hW (oM hj) ic2 5 (by decide) rfl wd_121 dX2_buyFrom_38 ?_
    refine q_iload_n Cx dX2_buyFrom_41 rfl (lv_at hl 4 rfl) ?_
    obtain ⟨h52, v51, e53, hF⟩ := ld_some hF
    refine qb_iald Cx hW (ai_17 hj) h52 e53 dX2_buyFrom_42 ?_
    refine q_iload_n Cx dX2_buyFrom_43 rfl (lv_at hl 1 rfl) ?_
    obtain ⟨h54, hF⟩ := nz_some hF
    refine q_idiv Cx dX2_buyFrom_44 h54 ?_
    obtain ⟨x55, e56, hF⟩ := lt1_some hF
    refine q_min Cx wd_316 wd_317 wd_23 wd_318 hl.1 (by decide) (Nat.le_of_ble_eq_true rfl) e56.symm dX2_buyFrom_45 ?_
    refine q_istore (lv' := [(4, .int x55), (3, .int v1), (0, .ref (vA V j 0)), (1, .int l1), (2, .int l2)]) Cx dX2_buyFrom_48 hl (by decide) rfl (fun ls hl => ?_)
    exact wX2_buyFrom_50 hj Cx hret hW (lv_sub hl [2, 3, 4, 1, 0] rfl) hF
set_option maxRecDepth 100000 in
theorem kX2_buyFrom {l : Launch} {V : VT} {M : Mem} {j : Nat} (hj : j < 11) {B : Blk} {l1 : Int32} {l2 : Int32} {B' : Blk} (hF : FX2_buyFrom B l1 l2 = some B') : MetV l V yX2_buyFrom cX2_buyFrom 5 ({ frames := 2, cells := 0, slots := 0, locals := 61 } : Room) [.ref (vA V j 0), .int l1, .int l2] (jb M j B) (jb M j B') := metV_of (by decide) (Nat.le_of_ble_eq_true rfl) (fun E H0 _ Cx hret H locs ls hW hl => wX2_buyFrom hj Cx hret hW hl hF)
theorem dX2_buyFor_0 : decode cX2_buyFor 0 = .ok (.aload_n 0, 1) := by decide +kernel
theorem dX2_buyFor_1 : decode cX2_buyFor 1 = .ok (.getfield 12, 3) := by decide +kernel
theorem dX2_buyFor_4 : decode cX2_buyFor 4 = .ok (.iload_n 1, 1) := by decide +kernel
theorem dX2_buyFor_5 : decode cX2_buyFor 5 = .ok (.invokevirtual 128, 3) := by decide +kernel
theorem dX2_buyFor_8 : decode cX2_buyFor 8 = .ok (.iconst 1, 1) := by decide +kernel
theorem dX2_buyFor_9 : decode cX2_buyFor 9 = .ok (.iload_n 1, 1) := by decide +kernel
theorem dX2_buyFor_10 : decode cX2_buyFor 10 = .ok (.ishl, 1) := by decide +kernel
theorem dX2_buyFor_11 : decode cX2_buyFor 11 = .ok (.istore_n 2, 1) := by decide +kernel
theorem dX2_buyFor_12 : decode cX2_buyFor 12 = .ok (.iconst 0, 1) := by decide +kernel
theorem dX2_buyFor_13 : decode cX2_buyFor 13 = .ok (.istore_n 3, 1) := by decide +kernel
theorem dX2_buyFor_14 : decode cX2_buyFor 14 = .ok (.iload_n 3, 1) := by decide +kernel
theorem dX2_buyFor_15 : decode cX2_buyFor 15 = .ok (.aload_n 0, 1) := by decide +kernel
theorem dX2_buyFor_16 : decode cX2_buyFor 16 = .ok (.getfield 12, 3) := by decide +kernel
theorem dX2_buyFor_19 : decode cX2_buyFor 19 = .ok (.getfield 66, 3) := by decide +kernel
theorem dX2_buyFor_22 : decode cX2_buyFor 22 = .ok (.if_icmp .ge 48, 3) := by decide +kernel
theorem dX2_buyFor_25 : decode cX2_buyFor 25 = .ok (.aload_n 0, 1) := by decide +kernel
theorem dX2_buyFor_26 : decode cX2_buyFor 26 = .ok (.iload_n 1, 1) := by decide +kernel
theorem dX2_buyFor_27 : decode cX2_buyFor 27 = .ok (.invokevirtual 125, 3) := by decide +kernel
theorem dX2_buyFor_30 : decode cX2_buyFor 30 = .ok (.ifCond .le 40, 3) := by decide +kernel
theorem dX2_buyFor_33 : decode cX2_buyFor 33 = .ok (.aload_n 0, 1) := by decide +kernel
theorem dX2_buyFor_34 : decode cX2_buyFor 34 = .ok (.iload_n 2, 1) := by decide +kernel
theorem dX2_buyFor_35 : decode cX2_buyFor 35 = .ok (.invokevirtual 131, 3) := by decide +kernel
theorem dX2_buyFor_38 : decode cX2_buyFor 38 = .ok (.istore 4, 2) := by decide +kernel
theorem dX2_buyFor_40 : decode cX2_buyFor 40 = .ok (.iload 4, 2) := by decide +kernel
theorem dX2_buyFor_42 : decode cX2_buyFor 42 = .ok (.bipush (-6), 2) := by decide +kernel
theorem dX2_buyFor_44 : decode cX2_buyFor 44 = .ok (.if_icmp .ne 6, 3) := by decide +kernel
theorem dX2_buyFor_47 : decode cX2_buyFor 47 = .ok (.goto 23, 3) := by decide +kernel
theorem dX2_buyFor_50 : decode cX2_buyFor 50 = .ok (.iload_n 2, 1) := by decide +kernel
theorem dX2_buyFor_51 : decode cX2_buyFor 51 = .ok (.iconst 1, 1) := by decide +kernel
theorem dX2_buyFor_52 : decode cX2_buyFor 52 = .ok (.iload 4, 2) := by decide +kernel
theorem dX2_buyFor_54 : decode cX2_buyFor 54 = .ok (.ishl, 1) := by decide +kernel
theorem dX2_buyFor_55 : decode cX2_buyFor 55 = .ok (.ior, 1) := by decide +kernel
theorem dX2_buyFor_56 : decode cX2_buyFor 56 = .ok (.istore_n 2, 1) := by decide +kernel
theorem dX2_buyFor_57 : decode cX2_buyFor 57 = .ok (.aload_n 0, 1) := by decide +kernel
theorem dX2_buyFor_58 : decode cX2_buyFor 58 = .ok (.iload 4, 2) := by decide +kernel
theorem dX2_buyFor_60 : decode cX2_buyFor 60 = .ok (.iload_n 1, 1) := by decide +kernel
theorem dX2_buyFor_61 : decode cX2_buyFor 61 = .ok (.invokevirtual 134, 3) := by decide +kernel
theorem dX2_buyFor_64 : decode cX2_buyFor 64 = .ok (.iinc 3 1, 3) := by decide +kernel
theorem dX2_buyFor_67 : decode cX2_buyFor 67 = .ok (.goto (-53), 3) := by decide +kernel
theorem dX2_buyFor_70 : decode cX2_buyFor 70 = .ok (.return_, 1) := by decide +kernel
theorem okX2_buyFor : CalOK yX2_buyFor cX2_buyFor 5 (none) 1 := ⟨wd_17, wd_495, by decide +kernel⟩
theorem ovX2_buyFor : VirOK yX2_buyFor := ⟨wd_493, wd_494⟩
def FX2_buyFor_14s (k14 : Int32 → Int32 → Int32 → Blk → Option Blk) (l1 : Int32) (l2 : Int32) (l3 : Int32) (B : Blk) : Option Blk :=
  if ((B 1) 0) ≤ l3 then
    some B
  else
    c1 (FX2_lateOf B l1) fun r7 =>
    if r7 ≤ 0 then
      some B
    else
      c1 (FX2_bestSellerExcept B l2) fun r10 =>
      if r10 = (-6 : Int32) then
        some B
      else
        lt1 (l2 ||| ((1 : Int32) <<< (r10 &&& 31))) fun x13 =>
        c1 (FX2_buyFrom B r10 l1) fun B17 =>
        lt1 (l3 + (1 : Int32)) fun x18 =>
        k14 l1 x13 x18 B17
set_option maxRecDepth 100000 in
set_option maxHeartbeats 4000000 in
theorem wX2_buyFor_14s {E : WE} {V : VT} {A : Nat → Prop} {H0 : Heap} {M : Mem} {j : Nat} (hj : j < 11) (Cx : CX E RX2 cX2_buyFor 5 3 85) {B' : Blk} (hret : RetV E V A H0 cX2_buyFor (jb M j B')) {k14 : Int32 → Int32 → Int32 → Blk → Option Blk} (hk14 : ∀ {H : Heap} {locs : List Loc} {ls : Array Slot} {B : Blk} {l1 : Int32} {l2 : Int32} {l3 : Int32}, Wd V A H0 (jb M j B) (eS E) H locs → lv_has ls 5 [(0, .ref (vA V j 0)), (1, .int l1), (2, .int l2), (3, .int l3)] → k14 l1 l2 l3 B = some B' → Wq E H locs 14 ls []) {H : Heap} {locs : List Loc} {ls : Array Slot} {l1 : Int32} {l2 : Int32} {l3 : Int32} {B : Blk} (hW : Wd V A H0 (jb M j B) (eS E) H locs) (hl : lv_has ls 5 [(0, .ref (vA V j 0)), (1, .int l1), (2, .int l2), (3, .int l3)]) (hF : FX2_buyFor_14s k14 l1 l2 l3 B = some B') : Wq E H locs 14 ls [] := by
  unfold FX2_buyFor_14s at hF
  refine q_iload_n Cx dX2_buyFor_14 rfl (lv_at hl 3 rfl) ?_
  refine q_aload_n Cx dX2_buyFor_15 rfl (lv_at hl 0 rfl) ?_
  refine q_get (v := .ref (vA V j 1)) Cx hW (oM hj) ic2 0 (by decide) rfl wd_113 dX2_buyFor_16 ?_
  refine qb_get (v := .int ((B 1) 0)) Cx hW (oP hj) ic4 0 (by decide) rfl wd_45 dX2_buyFor_19 ?_
  refine q_icmp_ge (tgt := 70) Cx dX2_buyFor_22 (by decide) (fun c6 => ?_) (fun c6 => ?_)
  · have hF := (if_pos c6).symm.trans hF
    obtain rfl := Option.some.inj hF
    exact hret _ _ _ _ dX2_buyFor_70 hW
  · have hF := (if_neg c6).symm.trans hF
    refine q_aload_n Cx dX2_buyFor_25 rfl (lv_at hl 0 rfl) ?_
    refine q_iload_n Cx dX2_buyFor_26 rfl (lv_at hl 1 rfl) ?_
    obtain ⟨r7, e8, hF⟩ := c1_some hF
    refine q_callI (as := [.int l1]) (rest := []) Cx (kX2_lateOf hj e8) okX2_lateOf ovX2_lateOf wd_290 ⟨rfl, rfl, by decide, by decide⟩ hW (oM hj) ic2 rfl hl.1 (Nat.le_of_ble_eq_true rfl) rfl dX2_buyFor_27 (fun H locs hW => ?_)
    refine q_if_le (tgt := 70) Cx dX2_buyFor_30 (by decide) (fun c9 => ?_) (fun c9 => ?_)
    · have hF := (if_pos c9).symm.trans hF
      obtain rfl := Option.some.inj hF
      exact hret _ _ _ _ dX2_buyFor_70 hW
    · have hF := (if_neg c9).symm.trans hF
      refine q_aload_n Cx dX2_buyFor_33 rfl (lv_at hl 0 rfl) ?_
      refine q_iload_n Cx dX2_buyFor_34 rfl (lv_at hl 2 rfl) ?_
      obtain ⟨r10, e11, hF⟩ := c1_some hF
      refine q_callI (as := [.int l2]) (rest := []) Cx (kX2_bestSellerExcept hj e11) okX2_bestSellerExcept ovX2_bestSellerExcept wd_504 ⟨rfl, rfl, by decide, by decide⟩ hW (oM hj) ic2 rfl hl.1 (Nat.le_of_ble_eq_true rfl) rfl dX2_buyFor_35 (fun H locs hW => ?_)
      refine q_istore (lv' := [(4, .int r10), (0, .ref (vA V j 0)), (1, .int l1), (2, .int l2), (3, .int l3)]) Cx dX2_buyFor_38 hl (by decide) rfl (fun ls hl => ?_)
      refine q_iload Cx dX2_buyFor_40 (lv_at hl 0 rfl) ?_
      refine q_bipush (v := (-6 : Int32)) Cx dX2_buyFor_42 (by decide) ?_
      refine q_icmp_ne (tgt := 50) Cx dX2_buyFor_44 (by decide) (fun c12 => ?_) (fun c12 => ?_)
      · have hF := (if_neg c12).symm.trans hF
        refine q_iload_n Cx dX2_buyFor_50 rfl (lv_at hl 3 rfl) ?_
        refine q_iconst (v := (1 : Int32)) Cx dX2_buyFor_51 (by decide) ?_
        refine q_iload Cx dX2_buyFor_52 (lv_at hl 0 rfl) ?_
        refine q_ishl Cx dX2_buyFor_54 ?_
        refine q_ior Cx dX2_buyFor_55 ?_
        obtain ⟨x13, e14, hF⟩ := lt1_some hF
        refine q_topi e14 ?_
        refine q_istore_n (lv' := [(2, .int x13), (4, .int r10), (0, .ref (vA V j 0)), (1, .int l1), (3, .int l3)]) Cx dX2_buyFor_56 rfl hl (by decide) rfl (fun ls hl => ?_)
        refine q_aload_n Cx dX2_buyFor_57 rfl (lv_at hl 2 rfl) ?_
        refine q_iload Cx dX2_buyFor_58 (lv_at hl 1 rfl) ?_
        refine q_iload_n Cx dX2_buyFor_60 rfl (lv_at hl 3 rfl) ?_
        obtain ⟨B17, e16, hF⟩ := c1_some hF
        refine q_callV (as := [.int r10, .int l1]) (rest := []) Cx (kX2_buyFrom hj e16) okX2_buyFrom ovX2_buyFrom wd_516 ⟨rfl, rfl, by decide, by decide⟩ hW (oM hj) ic2 rfl hl.1 (Nat.le_of_ble_eq_true rfl) rfl dX2_buyFor_61 (fun H locs hW => ?_)
        obtain ⟨x18, e19, hF⟩ := lt1_some hF
        refine q_iinc (k := 4) (v := x18) (lv' := [(3, .int x18), (2, .int x13), (4, .int r10), (0, .ref (vA V j 0)), (1, .int l1)]) Cx dX2_buyFor_64 hl rfl e19.symm (by decide) rfl (fun ls hl => ?_)
        refine q_goto (tgt := 14) Cx dX2_buyFor_67 (by decide) ?_
        exact hk14 hW (lv_sub hl [3, 4, 1, 0] rfl) hF
      · have hF := (if_pos c12).symm.trans hF
        refine q_goto (tgt := 70) Cx dX2_buyFor_47 (by decide) ?_
        obtain rfl := Option.some.inj hF
        exact hret _ _ _ _ dX2_buyFor_70 hW
def FX2_buyFor_14 : Nat → Int32 → Int32 → Int32 → Blk → Option Blk
  | 0 => fun _ _ _ _ => none
  | n + 1 => FX2_buyFor_14s (FX2_buyFor_14 n)
set_option maxRecDepth 100000 in
theorem wX2_buyFor_14 {E : WE} {V : VT} {A : Nat → Prop} {H0 : Heap} {M : Mem} {j : Nat} (hj : j < 11) (Cx : CX E RX2 cX2_buyFor 5 3 85) {B' : Blk} (hret : RetV E V A H0 cX2_buyFor (jb M j B')) : ∀ (n : Nat) {H : Heap} {locs : List Loc} {ls : Array Slot} {l1 : Int32} {l2 : Int32} {l3 : Int32} {B : Blk}, Wd V A H0 (jb M j B) (eS E) H locs → lv_has ls 5 [(0, .ref (vA V j 0)), (1, .int l1), (2, .int l2), (3, .int l3)] → FX2_buyFor_14 n l1 l2 l3 B = some B' → Wq E H locs 14 ls [] := by
  intro n
  induction n with
  | zero => intro _ _ _ _ _ _ _ hW hl hF; cases hF
  | succ n ih => intro _ _ _ _ _ _ _ hW hl hF; exact wX2_buyFor_14s hj Cx hret ih hW hl hF
def FX2_buyFor (B : Blk) (l1 : Int32) : Option Blk :=
  c1 (FX4_measureFrom B l1) fun B3 =>
  lt1 ((1 : Int32) <<< (l1 &&& 31)) fun x4 =>
  FX2_buyFor_14 fu l1 x4 (0 : Int32) B3
set_option maxRecDepth 100000 in
set_option maxHeartbeats 4000000 in
theorem wX2_buyFor {E : WE} {V : VT} {A : Nat → Prop} {H0 : Heap} {M : Mem} {j : Nat} (hj : j < 11) (Cx : CX E RX2 cX2_buyFor 5 3 85) {B' : Blk} (hret : RetV E V A H0 cX2_buyFor (jb M j B')) {H : Heap} {locs : List Loc} {ls : Array Slot} {l1 : Int32} {B : Blk} (hW : Wd V A H0 (jb M j B) (eS E) H locs) (hl : lv_has ls 5 [(0, .ref (vA V j 0)), (1, .int l1)]) (hF : FX2_buyFor B l1 = some B') : Wq E H locs 0 ls [] := by
  unfold FX2_buyFor at hF
  refine q_aload_n Cx dX2_buyFor_0 rfl (lv_at hl 0 rfl) ?_
  refine q_get (v := .ref (vA V j 1)) Cx hW (oM hj) ic2 0 (by decide) rfl wd_113 dX2_buyFor_1 ?_
  refine q_iload_n Cx dX2_buyFor_4 rfl (lv_at hl 1 rfl) ?_
  obtain ⟨B3, e2, hF⟩ := c1_some hF
  refine q_callV (as := [.int l1]) (rest := []) Cx (kX4_measureFrom hj e2) okX4_measureFrom ovX4_measureFrom wd_496 ⟨rfl, rfl, by decide, by decide⟩ hW (oP hj) ic4 rfl hl.1 (Nat.le_of_ble_eq_true rfl) rfl dX2_buyFor_5 (fun H locs hW => ?_)
  refine q_iconst (v := (1 : Int32)) Cx dX2_buyFor_8 (by decide) ?_
  refine q_iload_n Cx dX2_buyFor_9 rfl (lv_at hl 1 rfl) ?_
  refine q_ishl Cx dX2_buyFor_10 ?_
  obtain ⟨x4, e5, hF⟩ := lt1_some hF
  refine q_topi e5 ?_
  refine q_istore_n (lv' := [(2, .int x4), (0, .ref (vA V j 0)), (1, .int l1)]) Cx dX2_buyFor_11 rfl hl (by decide) rfl (fun ls hl => ?_)
  refine q_iconst (v := (0 : Int32)) Cx dX2_buyFor_12 (by decide) ?_
  refine q_istore_n (lv' := [(3, .int (0 : Int32)), (2, .int x4), (0, .ref (vA V j 0)), (1, .int l1)]) Cx dX2_buyFor_13 rfl hl (by decide) rfl (fun ls hl => ?_)
  exact wX2_buyFor_14 hj Cx hret fu hW (lv_sub hl [2, 3, 1, 0] rfl) hF
set_option maxRecDepth 100000 in
theorem kX2_buyFor {l : Launch} {V : VT} {M : Mem} {j : Nat} (hj : j < 11) {B : Blk} {l1 : Int32} {B' : Blk} (hF : FX2_buyFor B l1 = some B') : MetV l V yX2_buyFor cX2_buyFor 5 ({ frames := 3, cells := 0, slots := 0, locals := 85 } : Room) [.ref (vA V j 0), .int l1] (jb M j B) (jb M j B') := metV_of (by decide) (Nat.le_of_ble_eq_true rfl) (fun E H0 _ Cx hret H locs ls hW hl => wX2_buyFor hj Cx hret hW hl hF)
theorem dX2_tradeAll_0 : decode cX2_tradeAll 0 = .ok (.aload_n 0, 1) := by decide +kernel
theorem dX2_tradeAll_1 : decode cX2_tradeAll 1 = .ok (.getfield 21, 3) := by decide +kernel
theorem dX2_tradeAll_4 : decode cX2_tradeAll 4 = .ok (.getfield 115, 3) := by decide +kernel
theorem dX2_tradeAll_7 : decode cX2_tradeAll 7 = .ok (.istore_n 1, 1) := by decide +kernel
theorem dX2_tradeAll_8 : decode cX2_tradeAll 8 = .ok (.iconst 0, 1) := by decide +kernel
theorem dX2_tradeAll_9 : decode cX2_tradeAll 9 = .ok (.istore_n 2, 1) := by decide +kernel
theorem dX2_tradeAll_10 : decode cX2_tradeAll 10 = .ok (.iconst 0, 1) := by decide +kernel
theorem dX2_tradeAll_11 : decode cX2_tradeAll 11 = .ok (.istore_n 3, 1) := by decide +kernel
theorem dX2_tradeAll_12 : decode cX2_tradeAll 12 = .ok (.iload_n 3, 1) := by decide +kernel
theorem dX2_tradeAll_13 : decode cX2_tradeAll 13 = .ok (.aload_n 0, 1) := by decide +kernel
theorem dX2_tradeAll_14 : decode cX2_tradeAll 14 = .ok (.getfield 12, 3) := by decide +kernel
theorem dX2_tradeAll_17 : decode cX2_tradeAll 17 = .ok (.getfield 66, 3) := by decide +kernel
theorem dX2_tradeAll_20 : decode cX2_tradeAll 20 = .ok (.if_icmp .ge 39, 3) := by decide +kernel
theorem dX2_tradeAll_23 : decode cX2_tradeAll 23 = .ok (.aload_n 0, 1) := by decide +kernel
theorem dX2_tradeAll_24 : decode cX2_tradeAll 24 = .ok (.iload_n 2, 1) := by decide +kernel
theorem dX2_tradeAll_25 : decode cX2_tradeAll 25 = .ok (.invokevirtual 118, 3) := by decide +kernel
theorem dX2_tradeAll_28 : decode cX2_tradeAll 28 = .ok (.istore 4, 2) := by decide +kernel
theorem dX2_tradeAll_30 : decode cX2_tradeAll 30 = .ok (.iload 4, 2) := by decide +kernel
theorem dX2_tradeAll_32 : decode cX2_tradeAll 32 = .ok (.bipush (-6), 2) := by decide +kernel
theorem dX2_tradeAll_34 : decode cX2_tradeAll 34 = .ok (.if_icmp .ne 6, 3) := by decide +kernel
theorem dX2_tradeAll_37 : decode cX2_tradeAll 37 = .ok (.goto 22, 3) := by decide +kernel
theorem dX2_tradeAll_40 : decode cX2_tradeAll 40 = .ok (.iload_n 2, 1) := by decide +kernel
theorem dX2_tradeAll_41 : decode cX2_tradeAll 41 = .ok (.iconst 1, 1) := by decide +kernel
theorem dX2_tradeAll_42 : decode cX2_tradeAll 42 = .ok (.iload 4, 2) := by decide +kernel
theorem dX2_tradeAll_44 : decode cX2_tradeAll 44 = .ok (.ishl, 1) := by decide +kernel
theorem dX2_tradeAll_45 : decode cX2_tradeAll 45 = .ok (.ior, 1) := by decide +kernel
theorem dX2_tradeAll_46 : decode cX2_tradeAll 46 = .ok (.istore_n 2, 1) := by decide +kernel
theorem dX2_tradeAll_47 : decode cX2_tradeAll 47 = .ok (.aload_n 0, 1) := by decide +kernel
theorem dX2_tradeAll_48 : decode cX2_tradeAll 48 = .ok (.iload 4, 2) := by decide +kernel
theorem dX2_tradeAll_50 : decode cX2_tradeAll 50 = .ok (.invokevirtual 121, 3) := by decide +kernel
theorem dX2_tradeAll_53 : decode cX2_tradeAll 53 = .ok (.iinc 3 1, 3) := by decide +kernel
theorem dX2_tradeAll_56 : decode cX2_tradeAll 56 = .ok (.goto (-44), 3) := by decide +kernel
theorem dX2_tradeAll_59 : decode cX2_tradeAll 59 = .ok (.aload_n 0, 1) := by decide +kernel
theorem dX2_tradeAll_60 : decode cX2_tradeAll 60 = .ok (.getfield 21, 3) := by decide +kernel
theorem dX2_tradeAll_63 : decode cX2_tradeAll 63 = .ok (.getfield 115, 3) := by decide +kernel
theorem dX2_tradeAll_66 : decode cX2_tradeAll 66 = .ok (.iload_n 1, 1) := by decide +kernel
theorem dX2_tradeAll_67 : decode cX2_tradeAll 67 = .ok (.isub, 1) := by decide +kernel
theorem dX2_tradeAll_68 : decode cX2_tradeAll 68 = .ok (.ireturn, 1) := by decide +kernel
theorem okX2_tradeAll : CalOK yX2_tradeAll cX2_tradeAll 5 (some .int) 0 := ⟨wd_17, wd_487, by decide +kernel⟩
theorem ovX2_tradeAll : VirOK yX2_tradeAll := ⟨wd_485, wd_486⟩
def FX2_tradeAll_59 (l1 : Int32) (B : Blk) : Option (Int32 × Blk) :=
  some ((((B 2) 0) - l1), B)
set_option maxRecDepth 100000 in
set_option maxHeartbeats 4000000 in
theorem wX2_tradeAll_59 {E : WE} {V : VT} {A : Nat → Prop} {H0 : Heap} {M : Mem} {j : Nat} (hj : j < 11) (Cx : CX E RX2 cX2_tradeAll 5 4 109) {r : Int32} {B' : Blk} (hret : RetI E V A H0 cX2_tradeAll .int r (jb M j B')) {H : Heap} {locs : List Loc} {ls : Array Slot} {l1 : Int32} {B : Blk} (hW : Wd V A H0 (jb M j B) (eS E) H locs) (hl : lv_has ls 5 [(0, .ref (vA V j 0)), (1, .int l1)]) (hF : FX2_tradeAll_59 l1 B = some (r, B')) : Wq E H locs 59 ls [] := by
  unfold FX2_tradeAll_59 at hF
  refine q_aload_n Cx dX2_tradeAll_59 rfl (lv_at hl 0 rfl) ?_
  refine q_get (v := .ref (vA V j 2)) Cx hW (oM hj) ic2 1 (by decide) rfl wd_115 dX2_tradeAll_60 ?_
  refine qb_get (v := .int ((B 2) 0)) Cx hW (oC hj) ic0 0 (by decide) rfl wd_92 dX2_tradeAll_63 ?_
  refine q_iload_n Cx dX2_tradeAll_66 rfl (lv_at hl 1 rfl) ?_
  refine q_isub Cx dX2_tradeAll_67 ?_
  obtain ⟨rfl, rfl⟩ := Prod.mk.inj (Option.some.inj hF)
  exact hret _ _ _ _ dX2_tradeAll_68 (nI32 _) hW
def FX2_tradeAll_12s (k12 : Int32 → Int32 → Int32 → Blk → Option (Int32 × Blk)) (l1 : Int32) (l2 : Int32) (l3 : Int32) (B : Blk) : Option (Int32 × Blk) :=
  if ((B 1) 0) ≤ l3 then
    FX2_tradeAll_59 l1 B
  else
    c1 (FX2_latestExcept B l2) fun r4 =>
    if r4 = (-6 : Int32) then
      FX2_tradeAll_59 l1 B
    else
      lt1 (l2 ||| ((1 : Int32) <<< (r4 &&& 31))) fun x7 =>
      c1 (FX2_buyFor B r4) fun B11 =>
      lt1 (l3 + (1 : Int32)) fun x12 =>
      k12 l1 x7 x12 B11
set_option maxRecDepth 100000 in
set_option maxHeartbeats 4000000 in
theorem wX2_tradeAll_12s {E : WE} {V : VT} {A : Nat → Prop} {H0 : Heap} {M : Mem} {j : Nat} (hj : j < 11) (Cx : CX E RX2 cX2_tradeAll 5 4 109) {r : Int32} {B' : Blk} (hret : RetI E V A H0 cX2_tradeAll .int r (jb M j B')) {k12 : Int32 → Int32 → Int32 → Blk → Option (Int32 × Blk)} (hk12 : ∀ {H : Heap} {locs : List Loc} {ls : Array Slot} {B : Blk} {l1 : Int32} {l2 : Int32} {l3 : Int32}, Wd V A H0 (jb M j B) (eS E) H locs → lv_has ls 5 [(0, .ref (vA V j 0)), (1, .int l1), (2, .int l2), (3, .int l3)] → k12 l1 l2 l3 B = some (r, B') → Wq E H locs 12 ls []) {H : Heap} {locs : List Loc} {ls : Array Slot} {l1 : Int32} {l2 : Int32} {l3 : Int32} {B : Blk} (hW : Wd V A H0 (jb M j B) (eS E) H locs) (hl : lv_has ls 5 [(0, .ref (vA V j 0)), (1, .int l1), (2, .int l2), (3, .int l3)]) (hF : FX2_tradeAll_12s k12 l1 l2 l3 B = some (r, B')) : Wq E H locs 12 ls [] := by
  unfold FX2_tradeAll_12s at hF
  refine q_iload_n Cx dX2_tradeAll_12 rfl (lv_at hl 3 rfl) ?_
  refine q_aload_n Cx dX2_tradeAll_13 rfl (lv_at hl 0 rfl) ?_
  refine q_get (v := .ref (vA V j 1)) Cx hW (oM hj) ic2 0 (by decide) rfl wd_113 dX2_tradeAll_14 ?_
  refine qb_get (v := .int ((B 1) 0)) Cx hW (oP hj) ic4 0 (by decide) rfl wd_45 dX2_tradeAll_17 ?_
  refine q_icmp_ge (tgt := 59) Cx dX2_tradeAll_20 (by decide) (fun c3 => ?_) (fun c3 => ?_)
  · have hF := (if_pos c3).symm.trans hF
    exact wX2_tradeAll_59 hj Cx hret hW (lv_sub hl [0, 1] rfl) hF
  · have hF := (if_neg c3).symm.trans hF
    refine q_aload_n Cx dX2_tradeAll_23 rfl (lv_at hl 0 rfl) ?_
    refine q_iload_n Cx dX2_tradeAll_24 rfl (lv_at hl 2 rfl) ?_
    obtain ⟨r4, e5, hF⟩ := c1_some hF
    refine q_callI (as := [.int l2]) (rest := []) Cx (kX2_latestExcept hj e5) okX2_latestExcept ovX2_latestExcept wd_488 ⟨rfl, rfl, by decide, by decide⟩ hW (oM hj) ic2 rfl hl.1 (Nat.le_of_ble_eq_true rfl) rfl dX2_tradeAll_25 (fun H locs hW => ?_)
    refine q_istore (lv' := [(4, .int r4), (0, .ref (vA V j 0)), (1, .int l1), (2, .int l2), (3, .int l3)]) Cx dX2_tradeAll_28 hl (by decide) rfl (fun ls hl => ?_)
    refine q_iload Cx dX2_tradeAll_30 (lv_at hl 0 rfl) ?_
    refine q_bipush (v := (-6 : Int32)) Cx dX2_tradeAll_32 (by decide) ?_
    refine q_icmp_ne (tgt := 40) Cx dX2_tradeAll_34 (by decide) (fun c6 => ?_) (fun c6 => ?_)
    · have hF := (if_neg c6).symm.trans hF
      refine q_iload_n Cx dX2_tradeAll_40 rfl (lv_at hl 3 rfl) ?_
      refine q_iconst (v := (1 : Int32)) Cx dX2_tradeAll_41 (by decide) ?_
      refine q_iload Cx dX2_tradeAll_42 (lv_at hl 0 rfl) ?_
      refine q_ishl Cx dX2_tradeAll_44 ?_
      refine q_ior Cx dX2_tradeAll_45 ?_
      obtain ⟨x7, e8, hF⟩ := lt1_some hF
      refine q_topi e8 ?_
      refine q_istore_n (lv' := [(2, .int x7), (4, .int r4), (0, .ref (vA V j 0)), (1, .int l1), (3, .int l3)]) Cx dX2_tradeAll_46 rfl hl (by decide) rfl (fun ls hl => ?_)
      refine q_aload_n Cx dX2_tradeAll_47 rfl (lv_at hl 2 rfl) ?_
      refine q_iload Cx dX2_tradeAll_48 (lv_at hl 1 rfl) ?_
      obtain ⟨B11, e10, hF⟩ := c1_some hF
      refine q_callV (as := [.int r4]) (rest := []) Cx (kX2_buyFor hj e10) okX2_buyFor ovX2_buyFor wd_492 ⟨rfl, rfl, by decide, by decide⟩ hW (oM hj) ic2 rfl hl.1 (Nat.le_of_ble_eq_true rfl) rfl dX2_tradeAll_50 (fun H locs hW => ?_)
      obtain ⟨x12, e13, hF⟩ := lt1_some hF
      refine q_iinc (k := 4) (v := x12) (lv' := [(3, .int x12), (2, .int x7), (4, .int r4), (0, .ref (vA V j 0)), (1, .int l1)]) Cx dX2_tradeAll_53 hl rfl e13.symm (by decide) rfl (fun ls hl => ?_)
      refine q_goto (tgt := 12) Cx dX2_tradeAll_56 (by decide) ?_
      exact hk12 hW (lv_sub hl [3, 4, 1, 0] rfl) hF
    · have hF := (if_pos c6).symm.trans hF
      refine q_goto (tgt := 59) Cx dX2_tradeAll_37 (by decide) ?_
      exact wX2_tradeAll_59 hj Cx hret hW (lv_sub hl [1, 2] rfl) hF
def FX2_tradeAll_12 : Nat → Int32 → Int32 → Int32 → Blk → Option (Int32 × Blk)
  | 0 => fun _ _ _ _ => none
  | n + 1 => FX2_tradeAll_12s (FX2_tradeAll_12 n)
set_option maxRecDepth 100000 in
theorem wX2_tradeAll_12 {E : WE} {V : VT} {A : Nat → Prop} {H0 : Heap} {M : Mem} {j : Nat} (hj : j < 11) (Cx : CX E RX2 cX2_tradeAll 5 4 109) {r : Int32} {B' : Blk} (hret : RetI E V A H0 cX2_tradeAll .int r (jb M j B')) : ∀ (n : Nat) {H : Heap} {locs : List Loc} {ls : Array Slot} {l1 : Int32} {l2 : Int32} {l3 : Int32} {B : Blk}, Wd V A H0 (jb M j B) (eS E) H locs → lv_has ls 5 [(0, .ref (vA V j 0)), (1, .int l1), (2, .int l2), (3, .int l3)] → FX2_tradeAll_12 n l1 l2 l3 B = some (r, B') → Wq E H locs 12 ls [] := by
  intro n
  induction n with
  | zero => intro _ _ _ _ _ _ _ hW hl hF; cases hF
  | succ n ih => intro _ _ _ _ _ _ _ hW hl hF; exact wX2_tradeAll_12s hj Cx hret ih hW hl hF
def FX2_tradeAll (B : Blk) : Option (Int32 × Blk) :=
  lt1 ((B 2) 0) fun x1 =>
  FX2_tradeAll_12 fu x1 (0 : Int32) (0 : Int32) B
set_option maxRecDepth 100000 in
set_option maxHeartbeats 4000000 in
theorem wX2_tradeAll {E : WE} {V : VT} {A : Nat → Prop} {H0 : Heap} {M : Mem} {j : Nat} (hj : j < 11) (Cx : CX E RX2 cX2_tradeAll 5 4 109) {r : Int32} {B' : Blk} (hret : RetI E V A H0 cX2_tradeAll .int r (jb M j B')) {H : Heap} {locs : List Loc} {ls : Array Slot} {B : Blk} (hW : Wd V A H0 (jb M j B) (eS E) H locs) (hl : lv_has ls 5 [(0, .ref (vA V j 0))]) (hF : FX2_tradeAll B = some (r, B')) : Wq E H locs 0 ls [] := by
  unfold FX2_tradeAll at hF
  refine q_aload_n Cx dX2_tradeAll_0 rfl (lv_at hl 0 rfl) ?_
  refine q_get (v := .ref (vA V j 2)) Cx hW (oM hj) ic2 1 (by decide) rfl wd_115 dX2_tradeAll_1 ?_
  refine qb_get (v := .int ((B 2) 0)) Cx hW (oC hj) ic0 0 (by decide) rfl wd_92 dX2_tradeAll_4 ?_
  obtain ⟨x1, e2, hF⟩ := lt1_some hF
  refine q_topi e2 ?_
  refine q_istore_n (lv' := [(1, .int x1), (0, .ref (vA V j 0))]) Cx dX2_tradeAll_7 rfl hl (by decide) rfl (fun ls hl => ?_)
  refine q_iconst (v := (0 : Int32)) Cx dX2_tradeAll_8 (by decide) ?_
  refine q_istore_n (lv' := [(2, .int (0 : Int32)), (1, .int x1), (0, .ref (vA V j 0))]) Cx dX2_tradeAll_9 rfl hl (by decide) rfl (fun ls hl => ?_)
  refine q_iconst (v := (0 : Int32)) Cx dX2_tradeAll_10 (by decide) ?_
  refine q_istore_n (lv' := [(3, .int (0 : Int32)), (2, .int (0 : Int32)), (1, .int x1), (0, .ref (vA V j 0))]) Cx dX2_tradeAll_11 rfl hl (by decide) rfl (fun ls hl => ?_)
  exact wX2_tradeAll_12 hj Cx hret fu hW (lv_sub hl [3, 2, 1, 0] rfl) hF
set_option maxRecDepth 100000 in
theorem kX2_tradeAll {l : Launch} {V : VT} {M : Mem} {j : Nat} (hj : j < 11) {B : Blk} {r : Int32} {B' : Blk} (hF : FX2_tradeAll B = some (r, B')) : MetI l V yX2_tradeAll cX2_tradeAll 5 .int ({ frames := 4, cells := 0, slots := 0, locals := 109 } : Room) [.ref (vA V j 0)] r (jb M j B) (jb M j B') := metI_of (by decide) (Nat.le_of_ble_eq_true rfl) (fun E H0 _ Cx hret H locs ls hW hl => wX2_tradeAll hj Cx hret hW hl hF)
theorem dX2_giveBack_0 : decode cX2_giveBack 0 = .ok (.aload_n 0, 1) := by decide +kernel
theorem dX2_giveBack_1 : decode cX2_giveBack 1 = .ok (.getfield 21, 3) := by decide +kernel
theorem dX2_giveBack_4 : decode cX2_giveBack 4 = .ok (.iload_n 1, 1) := by decide +kernel
theorem dX2_giveBack_5 : decode cX2_giveBack 5 = .ok (.invokevirtual 97, 3) := by decide +kernel
theorem dX2_giveBack_8 : decode cX2_giveBack 8 = .ok (.ifCond .ne 5, 3) := by decide +kernel
theorem dX2_giveBack_11 : decode cX2_giveBack 11 = .ok (.iconst (-1), 1) := by decide +kernel
theorem dX2_giveBack_12 : decode cX2_giveBack 12 = .ok (.ireturn, 1) := by decide +kernel
theorem dX2_giveBack_13 : decode cX2_giveBack 13 = .ok (.iload_n 2, 1) := by decide +kernel
theorem dX2_giveBack_14 : decode cX2_giveBack 14 = .ok (.iconst 1, 1) := by decide +kernel
theorem dX2_giveBack_15 : decode cX2_giveBack 15 = .ok (.if_icmp .lt 23, 3) := by decide +kernel
theorem dX2_giveBack_18 : decode cX2_giveBack 18 = .ok (.iload_n 2, 1) := by decide +kernel
theorem dX2_giveBack_19 : decode cX2_giveBack 19 = .ok (.sipush 500, 3) := by decide +kernel
theorem dX2_giveBack_22 : decode cX2_giveBack 22 = .ok (.if_icmp .gt 16, 3) := by decide +kernel
theorem dX2_giveBack_25 : decode cX2_giveBack 25 = .ok (.iload_n 2, 1) := by decide +kernel
theorem dX2_giveBack_26 : decode cX2_giveBack 26 = .ok (.aload_n 0, 1) := by decide +kernel
theorem dX2_giveBack_27 : decode cX2_giveBack 27 = .ok (.getfield 21, 3) := by decide +kernel
theorem dX2_giveBack_30 : decode cX2_giveBack 30 = .ok (.getfield 98, 3) := by decide +kernel
theorem dX2_giveBack_33 : decode cX2_giveBack 33 = .ok (.iload_n 1, 1) := by decide +kernel
theorem dX2_giveBack_34 : decode cX2_giveBack 34 = .ok (.iaload, 1) := by decide +kernel
theorem dX2_giveBack_35 : decode cX2_giveBack 35 = .ok (.if_icmp .le 6, 3) := by decide +kernel
theorem dX2_giveBack_38 : decode cX2_giveBack 38 = .ok (.bipush (-2), 2) := by decide +kernel
theorem dX2_giveBack_40 : decode cX2_giveBack 40 = .ok (.ireturn, 1) := by decide +kernel
theorem dX2_giveBack_41 : decode cX2_giveBack 41 = .ok (.aload_n 0, 1) := by decide +kernel
theorem dX2_giveBack_42 : decode cX2_giveBack 42 = .ok (.getfield 21, 3) := by decide +kernel
theorem dX2_giveBack_45 : decode cX2_giveBack 45 = .ok (.getfield 101, 3) := by decide +kernel
theorem dX2_giveBack_48 : decode cX2_giveBack 48 = .ok (.iload_n 1, 1) := by decide +kernel
theorem dX2_giveBack_49 : decode cX2_giveBack 49 = .ok (.iaload, 1) := by decide +kernel
theorem dX2_giveBack_50 : decode cX2_giveBack 50 = .ok (.istore_n 3, 1) := by decide +kernel
theorem dX2_giveBack_51 : decode cX2_giveBack 51 = .ok (.aload_n 0, 1) := by decide +kernel
theorem dX2_giveBack_52 : decode cX2_giveBack 52 = .ok (.getfield 21, 3) := by decide +kernel
theorem dX2_giveBack_55 : decode cX2_giveBack 55 = .ok (.getfield 104, 3) := by decide +kernel
theorem dX2_giveBack_58 : decode cX2_giveBack 58 = .ok (.iload_n 1, 1) := by decide +kernel
theorem dX2_giveBack_59 : decode cX2_giveBack 59 = .ok (.iaload, 1) := by decide +kernel
theorem dX2_giveBack_60 : decode cX2_giveBack 60 = .ok (.istore 4, 2) := by decide +kernel
theorem dX2_giveBack_62 : decode cX2_giveBack 62 = .ok (.iload_n 2, 1) := by decide +kernel
theorem dX2_giveBack_63 : decode cX2_giveBack 63 = .ok (.aload_n 0, 1) := by decide +kernel
theorem dX2_giveBack_64 : decode cX2_giveBack 64 = .ok (.getfield 21, 3) := by decide +kernel
theorem dX2_giveBack_67 : decode cX2_giveBack 67 = .ok (.getfield 107, 3) := by decide +kernel
theorem dX2_giveBack_70 : decode cX2_giveBack 70 = .ok (.iload_n 1, 1) := by decide +kernel
theorem dX2_giveBack_71 : decode cX2_giveBack 71 = .ok (.iaload, 1) := by decide +kernel
theorem dX2_giveBack_72 : decode cX2_giveBack 72 = .ok (.imul, 1) := by decide +kernel
theorem dX2_giveBack_73 : decode cX2_giveBack 73 = .ok (.aload_n 0, 1) := by decide +kernel
theorem dX2_giveBack_74 : decode cX2_giveBack 74 = .ok (.getfield 25, 3) := by decide +kernel
theorem dX2_giveBack_77 : decode cX2_giveBack 77 = .ok (.imul, 1) := by decide +kernel
theorem dX2_giveBack_78 : decode cX2_giveBack 78 = .ok (.bipush 100, 2) := by decide +kernel
theorem dX2_giveBack_80 : decode cX2_giveBack 80 = .ok (.idiv, 1) := by decide +kernel
theorem dX2_giveBack_81 : decode cX2_giveBack 81 = .ok (.istore 5, 2) := by decide +kernel
theorem dX2_giveBack_83 : decode cX2_giveBack 83 = .ok (.aload_n 0, 1) := by decide +kernel
theorem dX2_giveBack_84 : decode cX2_giveBack 84 = .ok (.getfield 32, 3) := by decide +kernel
theorem dX2_giveBack_87 : decode cX2_giveBack 87 = .ok (.iload 4, 2) := by decide +kernel
theorem dX2_giveBack_89 : decode cX2_giveBack 89 = .ok (.iaload, 1) := by decide +kernel
theorem dX2_giveBack_90 : decode cX2_giveBack 90 = .ok (.iload_n 2, 1) := by decide +kernel
theorem dX2_giveBack_91 : decode cX2_giveBack 91 = .ok (.isub, 1) := by decide +kernel
theorem dX2_giveBack_92 : decode cX2_giveBack 92 = .ok (.aload_n 0, 1) := by decide +kernel
theorem dX2_giveBack_93 : decode cX2_giveBack 93 = .ok (.getfield 12, 3) := by decide +kernel
theorem dX2_giveBack_96 : decode cX2_giveBack 96 = .ok (.getfield 108, 3) := by decide +kernel
theorem dX2_giveBack_99 : decode cX2_giveBack 99 = .ok (.iload 4, 2) := by decide +kernel
theorem dX2_giveBack_101 : decode cX2_giveBack 101 = .ok (.iaload, 1) := by decide +kernel
theorem dX2_giveBack_102 : decode cX2_giveBack 102 = .ok (.if_icmp .lt 14, 3) := by decide +kernel
theorem dX2_giveBack_105 : decode cX2_giveBack 105 = .ok (.aload_n 0, 1) := by decide +kernel
theorem dX2_giveBack_106 : decode cX2_giveBack 106 = .ok (.getfield 36, 3) := by decide +kernel
theorem dX2_giveBack_109 : decode cX2_giveBack 109 = .ok (.iload_n 3, 1) := by decide +kernel
theorem dX2_giveBack_110 : decode cX2_giveBack 110 = .ok (.iaload, 1) := by decide +kernel
theorem dX2_giveBack_111 : decode cX2_giveBack 111 = .ok (.iload 5, 2) := by decide +kernel
theorem dX2_giveBack_113 : decode cX2_giveBack 113 = .ok (.if_icmp .ge 6, 3) := by decide +kernel
theorem dX2_giveBack_116 : decode cX2_giveBack 116 = .ok (.bipush (-5), 2) := by decide +kernel
theorem dX2_giveBack_118 : decode cX2_giveBack 118 = .ok (.ireturn, 1) := by decide +kernel
theorem dX2_giveBack_119 : decode cX2_giveBack 119 = .ok (.aload_n 0, 1) := by decide +kernel
theorem dX2_giveBack_120 : decode cX2_giveBack 120 = .ok (.getfield 32, 3) := by decide +kernel
theorem dX2_giveBack_123 : decode cX2_giveBack 123 = .ok (.iload 4, 2) := by decide +kernel
theorem dX2_giveBack_125 : decode cX2_giveBack 125 = .ok (.dup2, 1) := by decide +kernel
theorem dX2_giveBack_126 : decode cX2_giveBack 126 = .ok (.iaload, 1) := by decide +kernel
theorem dX2_giveBack_127 : decode cX2_giveBack 127 = .ok (.iload_n 2, 1) := by decide +kernel
theorem dX2_giveBack_128 : decode cX2_giveBack 128 = .ok (.isub, 1) := by decide +kernel
theorem dX2_giveBack_129 : decode cX2_giveBack 129 = .ok (.iastore, 1) := by decide +kernel
theorem dX2_giveBack_130 : decode cX2_giveBack 130 = .ok (.aload_n 0, 1) := by decide +kernel
theorem dX2_giveBack_131 : decode cX2_giveBack 131 = .ok (.getfield 32, 3) := by decide +kernel
theorem dX2_giveBack_134 : decode cX2_giveBack 134 = .ok (.iload_n 3, 1) := by decide +kernel
theorem dX2_giveBack_135 : decode cX2_giveBack 135 = .ok (.dup2, 1) := by decide +kernel
theorem dX2_giveBack_136 : decode cX2_giveBack 136 = .ok (.iaload, 1) := by decide +kernel
theorem dX2_giveBack_137 : decode cX2_giveBack 137 = .ok (.iload_n 2, 1) := by decide +kernel
theorem dX2_giveBack_138 : decode cX2_giveBack 138 = .ok (.iadd, 1) := by decide +kernel
theorem dX2_giveBack_139 : decode cX2_giveBack 139 = .ok (.iastore, 1) := by decide +kernel
theorem dX2_giveBack_140 : decode cX2_giveBack 140 = .ok (.aload_n 0, 1) := by decide +kernel
theorem dX2_giveBack_141 : decode cX2_giveBack 141 = .ok (.getfield 36, 3) := by decide +kernel
theorem dX2_giveBack_144 : decode cX2_giveBack 144 = .ok (.iload_n 3, 1) := by decide +kernel
theorem dX2_giveBack_145 : decode cX2_giveBack 145 = .ok (.dup2, 1) := by decide +kernel
theorem dX2_giveBack_146 : decode cX2_giveBack 146 = .ok (.iaload, 1) := by decide +kernel
theorem dX2_giveBack_147 : decode cX2_giveBack 147 = .ok (.iload 5, 2) := by decide +kernel
theorem dX2_giveBack_149 : decode cX2_giveBack 149 = .ok (.isub, 1) := by decide +kernel
theorem dX2_giveBack_150 : decode cX2_giveBack 150 = .ok (.iastore, 1) := by decide +kernel
theorem dX2_giveBack_151 : decode cX2_giveBack 151 = .ok (.aload_n 0, 1) := by decide +kernel
theorem dX2_giveBack_152 : decode cX2_giveBack 152 = .ok (.getfield 36, 3) := by decide +kernel
theorem dX2_giveBack_155 : decode cX2_giveBack 155 = .ok (.iload 4, 2) := by decide +kernel
theorem dX2_giveBack_157 : decode cX2_giveBack 157 = .ok (.dup2, 1) := by decide +kernel
theorem dX2_giveBack_158 : decode cX2_giveBack 158 = .ok (.iaload, 1) := by decide +kernel
theorem dX2_giveBack_159 : decode cX2_giveBack 159 = .ok (.iload 5, 2) := by decide +kernel
theorem dX2_giveBack_161 : decode cX2_giveBack 161 = .ok (.iadd, 1) := by decide +kernel
theorem dX2_giveBack_162 : decode cX2_giveBack 162 = .ok (.iastore, 1) := by decide +kernel
theorem dX2_giveBack_163 : decode cX2_giveBack 163 = .ok (.aload_n 0, 1) := by decide +kernel
theorem dX2_giveBack_164 : decode cX2_giveBack 164 = .ok (.getfield 21, 3) := by decide +kernel
theorem dX2_giveBack_167 : decode cX2_giveBack 167 = .ok (.iload_n 1, 1) := by decide +kernel
theorem dX2_giveBack_168 : decode cX2_giveBack 168 = .ok (.iload_n 2, 1) := by decide +kernel
theorem dX2_giveBack_169 : decode cX2_giveBack 169 = .ok (.invokevirtual 111, 3) := by decide +kernel
theorem dX2_giveBack_172 : decode cX2_giveBack 172 = .ok (.ireturn, 1) := by decide +kernel
theorem okX2_giveBack : CalOK yX2_giveBack cX2_giveBack 6 (some .int) 2 := ⟨wd_17, wd_579, by decide +kernel⟩
theorem ovX2_giveBack : VirOK yX2_giveBack := ⟨wd_577, wd_578⟩
def FX2_giveBack (B : Blk) (l1 : Int32) (l2 : Int32) : Option (Int32 × Blk) :=
  c1 (FX0_has B l1) fun r1 =>
  if r1 = 0 then
    some ((-1 : Int32), B)
  else
    if l2 < (1 : Int32) then
      some ((-2 : Int32), B)
    else
      if (500 : Int32) < l2 then
        some ((-2 : Int32), B)
      else
        ld (B 14) 40 l1 fun v6 =>
        if l2 ≤ v6 then
          ld (B 12) 40 l1 fun v10 =>
          ld (B 13) 40 l1 fun v13 =>
          ld (B 15) 40 l1 fun v16 =>
          lt1 (((l2 * v16) * ((B 0) 2)) / (100 : Int32)) fun x19 =>
          ld (B 16) 24 v13 fun v21 =>
          ld (B 6) 24 v13 fun v24 =>
          if (v21 - l2) < v24 then
            some ((-5 : Int32), B)
          else
            ld (B 17) 24 v10 fun v28 =>
            if x19 ≤ v28 then
              ld (B 16) 24 v13 fun v32 =>
              stb B 16 24 v13 (v32 - l2) fun B35 =>
              ld (B35 16) 24 v10 fun v38 =>
              stb B35 16 24 v10 (v38 + l2) fun B41 =>
              ld (B41 17) 24 v10 fun v44 =>
              stb B41 17 24 v10 (v44 - x19) fun B47 =>
              ld (B47 17) 24 v13 fun v50 =>
              stb B47 17 24 v13 (v50 + x19) fun B53 =>
              c2 (FX0_lessen B53 l1 l2) fun r56 B58 =>
              some (r56, B58)
            else
              some ((-5 : Int32), B)
        else
          some ((-2 : Int32), B)
set_option maxRecDepth 100000 in
set_option maxHeartbeats 4000000 in
theorem wX2_giveBack {E : WE} {V : VT} {A : Nat → Prop} {H0 : Heap} {M : Mem} {j : Nat} (hj : j < 11) (Cx : CX E RX2 cX2_giveBack 6 2 45) {r : Int32} {B' : Blk} (hret : RetI E V A H0 cX2_giveBack .int r (jb M j B')) {H : Heap} {locs : List Loc} {ls : Array Slot} {l1 : Int32} {l2 : Int32} {B : Blk} (hW : Wd V A H0 (jb M j B) (eS E) H locs) (hl : lv_has ls 6 [(0, .ref (vA V j 0)), (1, .int l1), (2, .int l2)]) (hF : FX2_giveBack B l1 l2 = some (r, B')) : Wq E H locs 0 ls [] := by
  unfold FX2_giveBack at hF
  refine q_aload_n Cx dX2_giveBack_0 rfl (lv_at hl 0 rfl) ?_
  refine q_get (v := .ref (vA V j 2)) Cx hW (oM hj) ic2 1 (by decide) rfl wd_115 dX2_giveBack_1 ?_
  refine q_iload_n Cx dX2_giveBack_4 rfl (lv_at hl 1 rfl) ?_
  obtain ⟨r1, e2, hF⟩ := c1_some hF
  refine q_callI (as := [.int l1]) (rest := []) Cx (kX0_has hj e2) okX0_has ovX0_has wd_580 ⟨rfl, rfl, by decide, by decide⟩ hW (oC hj) ic0 rfl hl.1 (Nat.le_of_ble_eq_true rfl) rfl dX2_giveBack_5 (fun H locs hW => ?_)
  refine q_if_ne (tgt := 13) Cx dX2_giveBack_8 (by decide) (fun c3 => ?_) (fun c3 => ?_)
  · have hF := (if_neg c3).symm.trans hF
    refine q_iload_n Cx dX2_giveBack_13 rfl (lv_at hl 2 rfl) ?_
    refine q_iconst (v := (1 : Int32)) Cx dX2_giveBack_14 (by decide) ?_
    refine q_icmp_lt (tgt := 38) Cx dX2_giveBack_15 (by decide) (fun c4 => ?_) (fun c4 => ?_)
    · have hF := (if_pos c4).symm.trans hF
      refine q_bipush (v := (-2 : Int32)) Cx dX2_giveBack_38 (by decide) ?_
      obtain ⟨rfl, rfl⟩ := Prod.mk.inj (Option.some.inj hF)
      exact hret _ _ _ _ dX2_giveBack_40 (nI32 _) hW
    · have hF := (if_neg c4).symm.trans hF
      refine q_iload_n Cx dX2_giveBack_18 rfl (lv_at hl 2 rfl) ?_
      refine q_sipush (v := (500 : Int32)) Cx dX2_giveBack_19 (by decide) ?_
      refine q_icmp_gt (tgt := 38) Cx dX2_giveBack_22 (by decide) (fun c5 => ?_) (fun c5 => ?_)
      · have hF := (if_pos c5).symm.trans hF
        refine q_bipush (v := (-2 : Int32)) Cx dX2_giveBack_38 (by decide) ?_
        obtain ⟨rfl, rfl⟩ := Prod.mk.inj (Option.some.inj hF)
        exact hret _ _ _ _ dX2_giveBack_40 (nI32 _) hW
      · have hF := (if_neg c5).symm.trans hF
        refine q_iload_n Cx dX2_giveBack_25 rfl (lv_at hl 2 rfl) ?_
        refine q_aload_n Cx dX2_giveBack_26 rfl (lv_at hl 0 rfl) ?_
        refine q_get (v := .ref (vA V j 2)) Cx hW (oM hj) ic2 1 (by decide) rfl wd_115 dX2_giveBack_27 ?_
        refine q_get (v := .ref (vA V j 14)) Cx hW (oC hj) ic0 3 (by decide) rfl wd_99 dX2_giveBack_30 ?_
        refine q_iload_n Cx dX2_giveBack_33 rfl (lv_at hl 1 rfl) ?_
        obtain ⟨h7, v6, e8, hF⟩ := ld_some hF
        refine qb_iald Cx hW (ai_14 hj) h7 e8 dX2_giveBack_34 ?_
        refine q_icmp_le (tgt := 41) Cx dX2_giveBack_35 (by decide) (fun c9 => ?_) (fun c9 => ?_)
        · have hF := (if_pos c9).symm.trans hF
          refine q_aload_n Cx dX2_giveBack_41 rfl (lv_at hl 0 rfl) ?_
          refine q_get (v := .ref (vA V j 2)) Cx hW (oM hj) ic2 1 (by decide) rfl wd_115 dX2_giveBack_42 ?_
          refine q_get (v := .ref (vA V j 12)) Cx hW (oC hj) ic0 1 (by decide) rfl wd_95 dX2_giveBack_45 ?_
          refine q_iload_n Cx dX2_giveBack_48 rfl (lv_at hl 1 rfl) ?_
          obtain ⟨h11, v10, e12, hF⟩ := ld_some hF
          refine qb_iald Cx hW (ai_12 hj) h11 e12 dX2_giveBack_49 ?_
          refine q_istore_n (lv' := [(3, .int v10), (0, .ref (vA V j 0)), (1, .int l1), (2, .int l2)]) Cx dX2_giveBack_50 rfl hl (by decide) rfl (fun ls hl => ?_)
          refine q_aload_n Cx dX2_giveBack_51 rfl (lv_at hl 1 rfl) ?_
          refine q_get (v := .ref (vA V j 2)) Cx hW (oM hj) ic2 1 (by decide) rfl wd_115 dX2_giveBack_52 ?_
          refine q_get (v := .ref (vA V j 13)) Cx hW (oC hj) ic0 2 (by decide) rfl wd_97 dX2_giveBack_55 ?_
          refine q_iload_n Cx dX2_giveBack_58 rfl (lv_at hl 2 rfl) ?_
          obtain ⟨h14, v13, e15, hF⟩ := ld_some hF
          refine qb_iald Cx hW (ai_13 hj) h14 e15 dX2_giveBack_59 ?_
          refine q_istore (lv' := [(4, .int v13), (3, .int v10), (0, .ref (vA V j 0)), (1, .int l1), (2, .int l2)]) Cx dX2_giveBack_60 hl (by decide) rfl (fun ls hl => ?_)
          refine q_iload_n Cx dX2_giveBack_62 rfl (lv_at hl 4 rfl) ?_
          refine q_aload_n Cx dX2_giveBack_63 rfl (lv_at hl 2 rfl) ?_
          refine q_get (v := .ref (vA V j 2)) Cx hW (oM hj) ic2 1 (by decide) rfl wd_115 dX2_giveBack_64 ?_
          refine q_get (v := .ref (vA V j 15)) Cx hW (oC hj) ic0 4 (by decide) rfl wd_101 dX2_giveBack_67 ?_
          refine q_iload_n Cx dX2_giveBack_70 rfl (lv_at hl 3 rfl) ?_
          obtain ⟨h17, v16, e18, hF⟩ := ld_some hF
          refine qb_iald Cx hW (ai_15 hj) h17 e18 dX2_giveBack_71 ?_
          refine q_imul Cx dX2_giveBack_72 ?_
          refine q_aload_n Cx dX2_giveBack_73 rfl (lv_at hl 2 rfl) ?_
          refine qb_get (v := .int ((B 0) 2)) Cx hW (oM hj) ic2 2 (by decide) rfl wd_117 dX2_giveBack_74 ?_
          refine q_imul Cx dX2_giveBack_77 ?_
          refine q_bipush (v := (100 : Int32)) Cx dX2_giveBack_78 (by decide) ?_
          refine q_idiv Cx dX2_giveBack_80 (by decide) ?_
          obtain ⟨x19, e20, hF⟩ := lt1_some hF
          refine q_topi e20 ?_
          refine q_istore (lv' := [(5, .int x19), (4, .int v13), (3, .int v10), (0, .ref (vA V j 0)), (1, .int l1), (2, .int l2)]) Cx dX2_giveBack_81 hl (by decide) rfl (fun ls hl => ?_)
          refine q_aload_n Cx dX2_giveBack_83 rfl (lv_at hl 3 rfl) ?_
          refine q_get (v := .ref (vA V j 16)) Cx hW (oM hj) ic2 4 (by decide) rfl wd_119 dX2_giveBack_84 ?_
          refine q_iload Cx dX2_giveBack_87 (lv_at hl 1 rfl) ?_
          obtain ⟨h22, v21, e23, hF⟩ := ld_some hF
          refine qb_iald Cx hW (ai_16 hj) h22 e23 dX2_giveBack_89 ?_
          refine q_iload_n Cx dX2_giveBack_90 rfl (lv_at hl 5 rfl) ?_
          refine q_isub Cx dX2_giveBack_91 ?_
          refine q_aload_n Cx dX2_giveBack_92 rfl (lv_at hl 3 rfl) ?_
          refine q_get (v := .ref (vA V j 1)) Cx hW (oM hj) ic2 0 (by decide) rfl wd_113 dX2_giveBack_93 ?_
          refine q_get (v := .ref (vA V j 6)) Cx hW (oP hj) ic4 4 (by decide) rfl wd_53 dX2_giveBack_96 ?_
          refine q_iload Cx dX2_giveBack_99 (lv_at hl 1 rfl) ?_
          obtain ⟨h25, v24, e26, hF⟩ := ld_some hF
          refine qb_iald Cx hW (ai_6 hj) h25 e26 dX2_giveBack_101 ?_
          refine q_icmp_lt (tgt := 116) Cx dX2_giveBack_102 (by decide) (fun c27 => ?_) (fun c27 => ?_)
          · have hF := (if_pos c27).symm.trans hF
            refine q_bipush (v := (-5 : Int32)) Cx dX2_giveBack_116 (by decide) ?_
            obtain ⟨rfl, rfl⟩ := Prod.mk.inj (Option.some.inj hF)
            exact hret _ _ _ _ dX2_giveBack_118 (nI32 _) hW
          · have hF := (if_neg c27).symm.trans hF
            refine q_aload_n Cx dX2_giveBack_105 rfl (lv_at hl 3 rfl) ?_
            refine q_get (v := .ref (vA V j 17)) Cx hW (oM hj) ic2 5 (by decide) rfl wd_121 dX2_giveBack_106 ?_
            refine q_iload_n Cx dX2_giveBack_109 rfl (lv_at hl 2 rfl) ?_
            obtain ⟨h29, v28, e30, hF⟩ := ld_some hF
            refine qb_iald Cx hW (ai_17 hj) h29 e30 dX2_giveBack_110 ?_
            refine q_iload Cx dX2_giveBack_111 (lv_at hl 0 rfl) ?_
            refine q_icmp_ge (tgt := 119) Cx dX2_giveBack_113 (by decide) (fun c31 => ?_) (fun c31 => ?_)
            · have hF := (if_pos c31).symm.trans hF
              refine q_aload_n Cx dX2_giveBack_119 rfl (lv_at hl 3 rfl) ?_
              refine q_get (v := .ref (vA V j 16)) Cx hW (oM hj) ic2 4 (by decide) rfl wd_119 dX2_giveBack_120 ?_
              refine q_iload Cx dX2_giveBack_123 (lv_at hl 1 rfl) ?_
              refine q_dup2 Cx dX2_giveBack_125 rfl rfl ?_
              obtain ⟨h33, v32, e34, hF⟩ := ld_some hF
              refine qb_iald Cx hW (ai_16 hj) h33 e34 dX2_giveBack_126 ?_
              refine q_iload_n Cx dX2_giveBack_127 rfl (lv_at hl 5 rfl) ?_
              refine q_isub Cx dX2_giveBack_128 ?_
              obtain ⟨h36, B35, e37, hF⟩ := stb_some hF
              refine qb_iast Cx hW (ai_16 hj) h36 e37 dX2_giveBack_129 (fun H locs hW => ?_)
              refine q_aload_n Cx dX2_giveBack_130 rfl (lv_at hl 3 rfl) ?_
              refine q_get (v := .ref (vA V j 16)) Cx hW (oM hj) ic2 4 (by decide) rfl wd_119 dX2_giveBack_131 ?_
              refine q_iload_n Cx dX2_giveBack_134 rfl (lv_at hl 2 rfl) ?_
              refine q_dup2 Cx dX2_giveBack_135 rfl rfl ?_
              obtain ⟨h39, v38, e40, hF⟩ := ld_some hF
              refine qb_iald Cx hW (ai_16 hj) h39 e40 dX2_giveBack_136 ?_
              refine q_iload_n Cx dX2_giveBack_137 rfl (lv_at hl 5 rfl) ?_
              refine q_iadd Cx dX2_giveBack_138 ?_
              obtain ⟨h42, B41, e43, hF⟩ := stb_some hF
              refine qb_iast Cx hW (ai_16 hj) h42 e43 dX2_giveBack_139 (fun H locs hW => ?_)
              refine q_aload_n Cx dX2_giveBack_140 rfl (lv_at hl 3 rfl) ?_
              refine q_get (v := .ref (vA V j 17)) Cx hW (oM hj) ic2 5 (by decide) rfl wd_121 dX2_giveBack_141 ?_
              refine q_iload_n Cx dX2_giveBack_144 rfl (lv_at hl 2 rfl) ?_
              refine q_dup2 Cx dX2_giveBack_145 rfl rfl ?_
              obtain ⟨h45, v44, e46, hF⟩ := ld_some hF
              refine qb_iald Cx hW (ai_17 hj) h45 e46 dX2_giveBack_146 ?_
              refine q_iload Cx dX2_giveBack_147 (lv_at hl 0 rfl) ?_
              refine q_isub Cx dX2_giveBack_149 ?_
              obtain ⟨h48, B47, e49, hF⟩ := stb_some hF
              refine qb_iast Cx hW (ai_17 hj) h48 e49 dX2_giveBack_150 (fun H locs hW => ?_)
              refine q_aload_n Cx dX2_giveBack_151 rfl (lv_at hl 3 rfl) ?_
              refine q_get (v := .ref (vA V j 17)) Cx hW (oM hj) ic2 5 (by decide) rfl wd_121 dX2_giveBack_152 ?_
              refine q_iload Cx dX2_giveBack_155 (lv_at hl 1 rfl) ?_
              refine q_dup2 Cx dX2_giveBack_157 rfl rfl ?_
              obtain ⟨h51, v50, e52, hF⟩ := ld_some hF
              refine qb_iald Cx hW (ai_17 hj) h51 e52 dX2_giveBack_158 ?_
              refine q_iload Cx dX2_giveBack_159 (lv_at hl 0 rfl) ?_
              refine q_iadd Cx dX2_giveBack_161 ?_
              obtain ⟨h54, B53, e55, hF⟩ := stb_some hF
              refine qb_iast Cx hW (ai_17 hj) h54 e55 dX2_giveBack_162 (fun H locs hW => ?_)
              refine q_aload_n Cx dX2_giveBack_163 rfl (lv_at hl 3 rfl) ?_
              refine q_get (v := .ref (vA V j 2)) Cx hW (oM hj) ic2 1 (by decide) rfl wd_115 dX2_giveBack_164 ?_
              refine q_iload_n Cx dX2_giveBack_167 rfl (lv_at hl 4 rfl) ?_
              refine q_iload_n Cx dX2_giveBack_168 rfl (lv_at hl 5 rfl) ?_
              obtain ⟨r56, B58, e57, hF⟩ := c2_some hF
              refine q_callI (as := [.int l1, .int l2]) (rest := []) Cx (kX0_lessen hj e57) okX0_lessen ovX0_lessen wd_581 ⟨rfl, rfl, by decide, by decide⟩ hW (oC hj) ic0 rfl hl.1 (Nat.le_of_ble_eq_true rfl) rfl dX2_giveBack_169 (fun H locs hW => ?_)
              obtain ⟨rfl, rfl⟩ := Prod.mk.inj (Option.some.inj hF)
              exact hret _ _ _ _ dX2_giveBack_172 (nI32 _) hW
            · have hF := (if_neg c31).symm.trans hF
              refine q_bipush (v := (-5 : Int32)) Cx dX2_giveBack_116 (by decide) ?_
              obtain ⟨rfl, rfl⟩ := Prod.mk.inj (Option.some.inj hF)
              exact hret _ _ _ _ dX2_giveBack_118 (nI32 _) hW
        · have hF := (if_neg c9).symm.trans hF
          refine q_bipush (v := (-2 : Int32)) Cx dX2_giveBack_38 (by decide) ?_
          obtain ⟨rfl, rfl⟩ := Prod.mk.inj (Option.some.inj hF)
          exact hret _ _ _ _ dX2_giveBack_40 (nI32 _) hW
  · have hF := (if_pos c3).symm.trans hF
    refine q_iconst (v := (-1 : Int32)) Cx dX2_giveBack_11 (by decide) ?_
    obtain ⟨rfl, rfl⟩ := Prod.mk.inj (Option.some.inj hF)
    exact hret _ _ _ _ dX2_giveBack_12 (nI32 _) hW
set_option maxRecDepth 100000 in
theorem kX2_giveBack {l : Launch} {V : VT} {M : Mem} {j : Nat} (hj : j < 11) {B : Blk} {l1 : Int32} {l2 : Int32} {r : Int32} {B' : Blk} (hF : FX2_giveBack B l1 l2 = some (r, B')) : MetI l V yX2_giveBack cX2_giveBack 6 .int ({ frames := 2, cells := 0, slots := 0, locals := 45 } : Room) [.ref (vA V j 0), .int l1, .int l2] r (jb M j B) (jb M j B') := metI_of (by decide) (Nat.le_of_ble_eq_true rfl) (fun E H0 _ Cx hret H locs ls hW hl => wX2_giveBack hj Cx hret hW hl hF)
theorem dX2_lateTogether_0 : decode cX2_lateTogether 0 = .ok (.iconst 0, 1) := by decide +kernel
theorem dX2_lateTogether_1 : decode cX2_lateTogether 1 = .ok (.istore_n 1, 1) := by decide +kernel
theorem dX2_lateTogether_2 : decode cX2_lateTogether 2 = .ok (.iconst 0, 1) := by decide +kernel
theorem dX2_lateTogether_3 : decode cX2_lateTogether 3 = .ok (.istore_n 2, 1) := by decide +kernel
theorem dX2_lateTogether_4 : decode cX2_lateTogether 4 = .ok (.iload_n 2, 1) := by decide +kernel
theorem dX2_lateTogether_5 : decode cX2_lateTogether 5 = .ok (.aload_n 0, 1) := by decide +kernel
theorem dX2_lateTogether_6 : decode cX2_lateTogether 6 = .ok (.getfield 12, 3) := by decide +kernel
theorem dX2_lateTogether_9 : decode cX2_lateTogether 9 = .ok (.getfield 66, 3) := by decide +kernel
theorem dX2_lateTogether_12 : decode cX2_lateTogether 12 = .ok (.if_icmp .ge 17, 3) := by decide +kernel
theorem dX2_lateTogether_15 : decode cX2_lateTogether 15 = .ok (.iload_n 1, 1) := by decide +kernel
theorem dX2_lateTogether_16 : decode cX2_lateTogether 16 = .ok (.aload_n 0, 1) := by decide +kernel
theorem dX2_lateTogether_17 : decode cX2_lateTogether 17 = .ok (.iload_n 2, 1) := by decide +kernel
theorem dX2_lateTogether_18 : decode cX2_lateTogether 18 = .ok (.invokevirtual 125, 3) := by decide +kernel
theorem dX2_lateTogether_21 : decode cX2_lateTogether 21 = .ok (.iadd, 1) := by decide +kernel
theorem dX2_lateTogether_22 : decode cX2_lateTogether 22 = .ok (.istore_n 1, 1) := by decide +kernel
theorem dX2_lateTogether_23 : decode cX2_lateTogether 23 = .ok (.iinc 2 1, 3) := by decide +kernel
theorem dX2_lateTogether_26 : decode cX2_lateTogether 26 = .ok (.goto (-22), 3) := by decide +kernel
theorem dX2_lateTogether_29 : decode cX2_lateTogether 29 = .ok (.iload_n 1, 1) := by decide +kernel
theorem dX2_lateTogether_30 : decode cX2_lateTogether 30 = .ok (.ireturn, 1) := by decide +kernel
theorem okX2_lateTogether : CalOK yX2_lateTogether cX2_lateTogether 3 (some .int) 0 := ⟨wd_17, wd_306, by decide +kernel⟩
theorem ovX2_lateTogether : VirOK yX2_lateTogether := ⟨wd_304, wd_305⟩
def FX2_lateTogether_4s (B : Blk) (k4 : Int32 → Int32 → Option Int32) (l1 : Int32) (l2 : Int32) : Option Int32 :=
  if ((B 1) 0) ≤ l2 then
    some l1
  else
    c1 (FX2_lateOf B l2) fun r2 =>
    lt1 (l1 + r2) fun x4 =>
    lt1 (l2 + (1 : Int32)) fun x6 =>
    k4 x4 x6
set_option maxRecDepth 100000 in
set_option maxHeartbeats 4000000 in
theorem wX2_lateTogether_4s {E : WE} {V : VT} {A : Nat → Prop} {H0 : Heap} {M : Mem} {j : Nat} (hj : j < 11) (Cx : CX E RX2 cX2_lateTogether 3 2 61) {r : Int32} {B : Blk} (hret : RetI E V A H0 cX2_lateTogether .int r (jb M j B)) {k4 : Int32 → Int32 → Option Int32} (hk4 : ∀ {H : Heap} {locs : List Loc} {ls : Array Slot} {l1 : Int32} {l2 : Int32}, Wd V A H0 (jb M j B) (eS E) H locs → lv_has ls 3 [(0, .ref (vA V j 0)), (1, .int l1), (2, .int l2)] → k4 l1 l2 = some r → Wq E H locs 4 ls []) {H : Heap} {locs : List Loc} {ls : Array Slot} {l1 : Int32} {l2 : Int32} (hW : Wd V A H0 (jb M j B) (eS E) H locs) (hl : lv_has ls 3 [(0, .ref (vA V j 0)), (1, .int l1), (2, .int l2)]) (hF : FX2_lateTogether_4s B k4 l1 l2 = some r) : Wq E H locs 4 ls [] := by
  unfold FX2_lateTogether_4s at hF
  refine q_iload_n Cx dX2_lateTogether_4 rfl (lv_at hl 2 rfl) ?_
  refine q_aload_n Cx dX2_lateTogether_5 rfl (lv_at hl 0 rfl) ?_
  refine q_get (v := .ref (vA V j 1)) Cx hW (oM hj) ic2 0 (by decide) rfl wd_113 dX2_lateTogether_6 ?_
  refine qb_get (v := .int ((B 1) 0)) Cx hW (oP hj) ic4 0 (by decide) rfl wd_45 dX2_lateTogether_9 ?_
  refine q_icmp_ge (tgt := 29) Cx dX2_lateTogether_12 (by decide) (fun c1 => ?_) (fun c1 => ?_)
  · have hF := (if_pos c1).symm.trans hF
    refine q_iload_n Cx dX2_lateTogether_29 rfl (lv_at hl 1 rfl) ?_
    obtain rfl := Option.some.inj hF
    exact hret _ _ _ _ dX2_lateTogether_30 (nI32 _) hW
  · have hF := (if_neg c1).symm.trans hF
    refine q_iload_n Cx dX2_lateTogether_15 rfl (lv_at hl 1 rfl) ?_
    refine q_aload_n Cx dX2_lateTogether_16 rfl (lv_at hl 0 rfl) ?_
    refine q_iload_n Cx dX2_lateTogether_17 rfl (lv_at hl 2 rfl) ?_
    obtain ⟨r2, e3, hF⟩ := c1_some hF
    refine q_callI (as := [.int l2]) (rest := [.int l1]) Cx (kX2_lateOf hj e3) okX2_lateOf ovX2_lateOf wd_290 ⟨rfl, rfl, by decide, by decide⟩ hW (oM hj) ic2 rfl hl.1 (Nat.le_of_ble_eq_true rfl) rfl dX2_lateTogether_18 (fun H locs hW => ?_)
    refine q_iadd Cx dX2_lateTogether_21 ?_
    obtain ⟨x4, e5, hF⟩ := lt1_some hF
    refine q_topi e5 ?_
    refine q_istore_n (lv' := [(1, .int x4), (0, .ref (vA V j 0)), (2, .int l2)]) Cx dX2_lateTogether_22 rfl hl (by decide) rfl (fun ls hl => ?_)
    obtain ⟨x6, e7, hF⟩ := lt1_some hF
    refine q_iinc (k := 2) (v := x6) (lv' := [(2, .int x6), (1, .int x4), (0, .ref (vA V j 0))]) Cx dX2_lateTogether_23 hl rfl e7.symm (by decide) rfl (fun ls hl => ?_)
    refine q_goto (tgt := 4) Cx dX2_lateTogether_26 (by decide) ?_
    exact hk4 hW (lv_sub hl [2, 1, 0] rfl) hF
def FX2_lateTogether_4 (B : Blk) : Nat → Int32 → Int32 → Option Int32
  | 0 => fun _ _ => none
  | n + 1 => FX2_lateTogether_4s B (FX2_lateTogether_4 B n)
set_option maxRecDepth 100000 in
theorem wX2_lateTogether_4 {E : WE} {V : VT} {A : Nat → Prop} {H0 : Heap} {M : Mem} {j : Nat} (hj : j < 11) (Cx : CX E RX2 cX2_lateTogether 3 2 61) {r : Int32} {B : Blk} (hret : RetI E V A H0 cX2_lateTogether .int r (jb M j B)) : ∀ (n : Nat) {H : Heap} {locs : List Loc} {ls : Array Slot} {l1 : Int32} {l2 : Int32}, Wd V A H0 (jb M j B) (eS E) H locs → lv_has ls 3 [(0, .ref (vA V j 0)), (1, .int l1), (2, .int l2)] → FX2_lateTogether_4 B n l1 l2 = some r → Wq E H locs 4 ls [] := by
  intro n
  induction n with
  | zero => intro _ _ _ _ _ hW hl hF; cases hF
  | succ n ih => intro _ _ _ _ _ hW hl hF; exact wX2_lateTogether_4s hj Cx hret ih hW hl hF
def FX2_lateTogether (B : Blk) : Option Int32 :=
  FX2_lateTogether_4 B fu (0 : Int32) (0 : Int32)
set_option maxRecDepth 100000 in
set_option maxHeartbeats 4000000 in
theorem wX2_lateTogether {E : WE} {V : VT} {A : Nat → Prop} {H0 : Heap} {M : Mem} {j : Nat} (hj : j < 11) (Cx : CX E RX2 cX2_lateTogether 3 2 61) {r : Int32} {B : Blk} (hret : RetI E V A H0 cX2_lateTogether .int r (jb M j B)) {H : Heap} {locs : List Loc} {ls : Array Slot} (hW : Wd V A H0 (jb M j B) (eS E) H locs) (hl : lv_has ls 3 [(0, .ref (vA V j 0))]) (hF : FX2_lateTogether B = some r) : Wq E H locs 0 ls [] := by
  unfold FX2_lateTogether at hF
  refine q_iconst (v := (0 : Int32)) Cx dX2_lateTogether_0 (by decide) ?_
  refine q_istore_n (lv' := [(1, .int (0 : Int32)), (0, .ref (vA V j 0))]) Cx dX2_lateTogether_1 rfl hl (by decide) rfl (fun ls hl => ?_)
  refine q_iconst (v := (0 : Int32)) Cx dX2_lateTogether_2 (by decide) ?_
  refine q_istore_n (lv' := [(2, .int (0 : Int32)), (1, .int (0 : Int32)), (0, .ref (vA V j 0))]) Cx dX2_lateTogether_3 rfl hl (by decide) rfl (fun ls hl => ?_)
  exact wX2_lateTogether_4 hj Cx hret fu hW (lv_sub hl [2, 1, 0] rfl) hF
set_option maxRecDepth 100000 in
theorem kX2_lateTogether {l : Launch} {V : VT} {M : Mem} {j : Nat} (hj : j < 11) {B : Blk} {r : Int32} (hF : FX2_lateTogether B = some r) : MetI l V yX2_lateTogether cX2_lateTogether 3 .int ({ frames := 2, cells := 0, slots := 0, locals := 61 } : Room) [.ref (vA V j 0)] r (jb M j B) (jb M j B) := metI_of (by decide) (Nat.le_of_ble_eq_true rfl) (fun E H0 _ Cx hret H locs ls hW hl => wX2_lateTogether hj Cx hret hW hl hF)
theorem dX2_lowerLatestEnd_0 : decode cX2_lowerLatestEnd 0 = .ok (.aload_n 0, 1) := by decide +kernel
theorem dX2_lowerLatestEnd_1 : decode cX2_lowerLatestEnd 1 = .ok (.getfield 12, 3) := by decide +kernel
theorem dX2_lowerLatestEnd_4 : decode cX2_lowerLatestEnd 4 = .ok (.iload_n 1, 1) := by decide +kernel
theorem dX2_lowerLatestEnd_5 : decode cX2_lowerLatestEnd 5 = .ok (.invokevirtual 61, 3) := by decide +kernel
theorem dX2_lowerLatestEnd_8 : decode cX2_lowerLatestEnd 8 = .ok (.ifCond .eq 19, 3) := by decide +kernel
theorem dX2_lowerLatestEnd_11 : decode cX2_lowerLatestEnd 11 = .ok (.aload_n 0, 1) := by decide +kernel
theorem dX2_lowerLatestEnd_12 : decode cX2_lowerLatestEnd 12 = .ok (.getfield 45, 3) := by decide +kernel
theorem dX2_lowerLatestEnd_15 : decode cX2_lowerLatestEnd 15 = .ok (.iload_n 1, 1) := by decide +kernel
theorem dX2_lowerLatestEnd_16 : decode cX2_lowerLatestEnd 16 = .ok (.aload_n 0, 1) := by decide +kernel
theorem dX2_lowerLatestEnd_17 : decode cX2_lowerLatestEnd 17 = .ok (.getfield 45, 3) := by decide +kernel
theorem dX2_lowerLatestEnd_20 : decode cX2_lowerLatestEnd 20 = .ok (.iload_n 1, 1) := by decide +kernel
theorem dX2_lowerLatestEnd_21 : decode cX2_lowerLatestEnd 21 = .ok (.iaload, 1) := by decide +kernel
theorem dX2_lowerLatestEnd_22 : decode cX2_lowerLatestEnd 22 = .ok (.iload_n 2, 1) := by decide +kernel
theorem dX2_lowerLatestEnd_23 : decode cX2_lowerLatestEnd 23 = .ok (.invokestatic 150, 3) := by decide +kernel
theorem dX2_lowerLatestEnd_26 : decode cX2_lowerLatestEnd 26 = .ok (.iastore, 1) := by decide +kernel
theorem dX2_lowerLatestEnd_27 : decode cX2_lowerLatestEnd 27 = .ok (.return_, 1) := by decide +kernel
theorem okX2_lowerLatestEnd : CalOK yX2_lowerLatestEnd cX2_lowerLatestEnd 3 (none) 2 := ⟨wd_17, wd_315, by decide +kernel⟩
theorem ovX2_lowerLatestEnd : VirOK yX2_lowerLatestEnd := ⟨wd_314, wd_2⟩
def FX2_lowerLatestEnd (B : Blk) (l1 : Int32) (l2 : Int32) : Option Blk :=
  c1 (FX4_has B l1) fun r1 =>
  if r1 = 0 then
    some B
  else
    ld (B 20) 24 l1 fun v4 =>
    lt1 (if l2 < v4 then l2 else v4) fun x7 =>
    stb B 20 24 l1 x7 fun B9 =>
    some B9
set_option maxRecDepth 100000 in
set_option maxHeartbeats 4000000 in
theorem wX2_lowerLatestEnd {E : WE} {V : VT} {A : Nat → Prop} {H0 : Heap} {M : Mem} {j : Nat} (hj : j < 11) (Cx : CX E RX2 cX2_lowerLatestEnd 3 1 40) {B' : Blk} (hret : RetV E V A H0 cX2_lowerLatestEnd (jb M j B')) {H : Heap} {locs : List Loc} {ls : Array Slot} {l1 : Int32} {l2 : Int32} {B : Blk} (hW : Wd V A H0 (jb M j B) (eS E) H locs) (hl : lv_has ls 3 [(0, .ref (vA V j 0)), (1, .int l1), (2, .int l2)]) (hF : FX2_lowerLatestEnd B l1 l2 = some B') : Wq E H locs 0 ls [] := by
  unfold FX2_lowerLatestEnd at hF
  refine q_aload_n Cx dX2_lowerLatestEnd_0 rfl (lv_at hl 0 rfl) ?_
  refine q_get (v := .ref (vA V j 1)) Cx hW (oM hj) ic2 0 (by decide) rfl wd_113 dX2_lowerLatestEnd_1 ?_
  refine q_iload_n Cx dX2_lowerLatestEnd_4 rfl (lv_at hl 1 rfl) ?_
  obtain ⟨r1, e2, hF⟩ := c1_some hF
  refine q_callI (as := [.int l1]) (rest := []) Cx (kX4_has hj e2) okX4_has ovX4_has wd_249 ⟨rfl, rfl, by decide, by decide⟩ hW (oP hj) ic4 rfl hl.1 (Nat.le_of_ble_eq_true rfl) rfl dX2_lowerLatestEnd_5 (fun H locs hW => ?_)
  refine q_if_eq (tgt := 27) Cx dX2_lowerLatestEnd_8 (by decide) (fun c3 => ?_) (fun c3 => ?_)
  · have hF := (if_pos c3).symm.trans hF
    obtain rfl := Option.some.inj hF
    exact hret _ _ _ _ dX2_lowerLatestEnd_27 hW
  · have hF := (if_neg c3).symm.trans hF
    refine q_aload_n Cx dX2_lowerLatestEnd_11 rfl (lv_at hl 0 rfl) ?_
    refine q_get (v := .ref (vA V j 20)) Cx hW (oM hj) ic2 8 (by decide) rfl wd_125 dX2_lowerLatestEnd_12 ?_
    refine q_iload_n Cx dX2_lowerLatestEnd_15 rfl (lv_at hl 1 rfl) ?_
    refine q_aload_n Cx dX2_lowerLatestEnd_16 rfl (lv_at hl 0 rfl) ?_
    refine q_get (v := .ref (vA V j 20)) Cx hW (oM hj) ic2 8 (by decide) rfl wd_125 dX2_lowerLatestEnd_17 ?_
    refine q_iload_n Cx dX2_lowerLatestEnd_20 rfl (lv_at hl 1 rfl) ?_
    obtain ⟨h5, v4, e6, hF⟩ := ld_some hF
    refine qb_iald Cx hW (ai_20 hj) h5 e6 dX2_lowerLatestEnd_21 ?_
    refine q_iload_n Cx dX2_lowerLatestEnd_22 rfl (lv_at hl 2 rfl) ?_
    obtain ⟨x7, e8, hF⟩ := lt1_some hF
    refine q_min Cx wd_316 wd_317 wd_23 wd_318 hl.1 (by decide) (Nat.le_of_ble_eq_true rfl) e8.symm dX2_lowerLatestEnd_23 ?_
    obtain ⟨h10, B9, e11, hF⟩ := stb_some hF
    refine qb_iast Cx hW (ai_20 hj) h10 e11 dX2_lowerLatestEnd_26 (fun H locs hW => ?_)
    obtain rfl := Option.some.inj hF
    exact hret _ _ _ _ dX2_lowerLatestEnd_27 hW
set_option maxRecDepth 100000 in
theorem kX2_lowerLatestEnd {l : Launch} {V : VT} {M : Mem} {j : Nat} (hj : j < 11) {B : Blk} {l1 : Int32} {l2 : Int32} {B' : Blk} (hF : FX2_lowerLatestEnd B l1 l2 = some B') : MetV l V yX2_lowerLatestEnd cX2_lowerLatestEnd 3 ({ frames := 1, cells := 0, slots := 0, locals := 40 } : Room) [.ref (vA V j 0), .int l1, .int l2] (jb M j B) (jb M j B') := metV_of (by decide) (Nat.le_of_ble_eq_true rfl) (fun E H0 _ Cx hret H locs ls hW hl => wX2_lowerLatestEnd hj Cx hret hW hl hF)
theorem dX2_slackOf_0 : decode cX2_slackOf 0 = .ok (.aload_n 0, 1) := by decide +kernel
theorem dX2_slackOf_1 : decode cX2_slackOf 1 = .ok (.invokevirtual 161, 3) := by decide +kernel
theorem dX2_slackOf_4 : decode cX2_slackOf 4 = .ok (.ifCond .le 5, 3) := by decide +kernel
theorem dX2_slackOf_7 : decode cX2_slackOf 7 = .ok (.iconst 0, 1) := by decide +kernel
theorem dX2_slackOf_8 : decode cX2_slackOf 8 = .ok (.ireturn, 1) := by decide +kernel
theorem dX2_slackOf_9 : decode cX2_slackOf 9 = .ok (.iconst 0, 1) := by decide +kernel
theorem dX2_slackOf_10 : decode cX2_slackOf 10 = .ok (.istore_n 2, 1) := by decide +kernel
theorem dX2_slackOf_11 : decode cX2_slackOf 11 = .ok (.iload_n 2, 1) := by decide +kernel
theorem dX2_slackOf_12 : decode cX2_slackOf 12 = .ok (.aload_n 0, 1) := by decide +kernel
theorem dX2_slackOf_13 : decode cX2_slackOf 13 = .ok (.getfield 12, 3) := by decide +kernel
theorem dX2_slackOf_16 : decode cX2_slackOf 16 = .ok (.getfield 66, 3) := by decide +kernel
theorem dX2_slackOf_19 : decode cX2_slackOf 19 = .ok (.if_icmp .ge 21, 3) := by decide +kernel
theorem dX2_slackOf_22 : decode cX2_slackOf 22 = .ok (.aload_n 0, 1) := by decide +kernel
theorem dX2_slackOf_23 : decode cX2_slackOf 23 = .ok (.getfield 45, 3) := by decide +kernel
theorem dX2_slackOf_26 : decode cX2_slackOf 26 = .ok (.iload_n 2, 1) := by decide +kernel
theorem dX2_slackOf_27 : decode cX2_slackOf 27 = .ok (.aload_n 0, 1) := by decide +kernel
theorem dX2_slackOf_28 : decode cX2_slackOf 28 = .ok (.getfield 32, 3) := by decide +kernel
theorem dX2_slackOf_31 : decode cX2_slackOf 31 = .ok (.iload_n 2, 1) := by decide +kernel
theorem dX2_slackOf_32 : decode cX2_slackOf 32 = .ok (.iaload, 1) := by decide +kernel
theorem dX2_slackOf_33 : decode cX2_slackOf 33 = .ok (.iastore, 1) := by decide +kernel
theorem dX2_slackOf_34 : decode cX2_slackOf 34 = .ok (.iinc 2 1, 3) := by decide +kernel
theorem dX2_slackOf_37 : decode cX2_slackOf 37 = .ok (.goto (-26), 3) := by decide +kernel
theorem dX2_slackOf_40 : decode cX2_slackOf 40 = .ok (.aload_n 0, 1) := by decide +kernel
theorem dX2_slackOf_41 : decode cX2_slackOf 41 = .ok (.getfield 12, 3) := by decide +kernel
theorem dX2_slackOf_44 : decode cX2_slackOf 44 = .ok (.getfield 66, 3) := by decide +kernel
theorem dX2_slackOf_47 : decode cX2_slackOf 47 = .ok (.iconst 1, 1) := by decide +kernel
theorem dX2_slackOf_48 : decode cX2_slackOf 48 = .ok (.isub, 1) := by decide +kernel
theorem dX2_slackOf_49 : decode cX2_slackOf 49 = .ok (.istore_n 2, 1) := by decide +kernel
theorem dX2_slackOf_50 : decode cX2_slackOf 50 = .ok (.iload_n 2, 1) := by decide +kernel
theorem dX2_slackOf_51 : decode cX2_slackOf 51 = .ok (.ifCond .lt 66, 3) := by decide +kernel
theorem dX2_slackOf_54 : decode cX2_slackOf 54 = .ok (.aload_n 0, 1) := by decide +kernel
theorem dX2_slackOf_55 : decode cX2_slackOf 55 = .ok (.getfield 12, 3) := by decide +kernel
theorem dX2_slackOf_58 : decode cX2_slackOf 58 = .ok (.getfield 165, 3) := by decide +kernel
theorem dX2_slackOf_61 : decode cX2_slackOf 61 = .ok (.iload_n 2, 1) := by decide +kernel
theorem dX2_slackOf_62 : decode cX2_slackOf 62 = .ok (.iaload, 1) := by decide +kernel
theorem dX2_slackOf_63 : decode cX2_slackOf 63 = .ok (.istore_n 3, 1) := by decide +kernel
theorem dX2_slackOf_64 : decode cX2_slackOf 64 = .ok (.aload_n 0, 1) := by decide +kernel
theorem dX2_slackOf_65 : decode cX2_slackOf 65 = .ok (.getfield 45, 3) := by decide +kernel
theorem dX2_slackOf_68 : decode cX2_slackOf 68 = .ok (.iload_n 3, 1) := by decide +kernel
theorem dX2_slackOf_69 : decode cX2_slackOf 69 = .ok (.iaload, 1) := by decide +kernel
theorem dX2_slackOf_70 : decode cX2_slackOf 70 = .ok (.aload_n 0, 1) := by decide +kernel
theorem dX2_slackOf_71 : decode cX2_slackOf 71 = .ok (.getfield 12, 3) := by decide +kernel
theorem dX2_slackOf_74 : decode cX2_slackOf 74 = .ok (.getfield 77, 3) := by decide +kernel
theorem dX2_slackOf_77 : decode cX2_slackOf 77 = .ok (.iload_n 3, 1) := by decide +kernel
theorem dX2_slackOf_78 : decode cX2_slackOf 78 = .ok (.iaload, 1) := by decide +kernel
theorem dX2_slackOf_79 : decode cX2_slackOf 79 = .ok (.isub, 1) := by decide +kernel
theorem dX2_slackOf_80 : decode cX2_slackOf 80 = .ok (.istore 4, 2) := by decide +kernel
theorem dX2_slackOf_82 : decode cX2_slackOf 82 = .ok (.aload_n 0, 1) := by decide +kernel
theorem dX2_slackOf_83 : decode cX2_slackOf 83 = .ok (.aload_n 0, 1) := by decide +kernel
theorem dX2_slackOf_84 : decode cX2_slackOf 84 = .ok (.getfield 12, 3) := by decide +kernel
theorem dX2_slackOf_87 : decode cX2_slackOf 87 = .ok (.iload_n 3, 1) := by decide +kernel
theorem dX2_slackOf_88 : decode cX2_slackOf 88 = .ok (.invokevirtual 168, 3) := by decide +kernel
theorem dX2_slackOf_91 : decode cX2_slackOf 91 = .ok (.iload 4, 2) := by decide +kernel
theorem dX2_slackOf_93 : decode cX2_slackOf 93 = .ok (.invokevirtual 171, 3) := by decide +kernel
theorem dX2_slackOf_96 : decode cX2_slackOf 96 = .ok (.aload_n 0, 1) := by decide +kernel
theorem dX2_slackOf_97 : decode cX2_slackOf 97 = .ok (.aload_n 0, 1) := by decide +kernel
theorem dX2_slackOf_98 : decode cX2_slackOf 98 = .ok (.getfield 12, 3) := by decide +kernel
theorem dX2_slackOf_101 : decode cX2_slackOf 101 = .ok (.getfield 174, 3) := by decide +kernel
theorem dX2_slackOf_104 : decode cX2_slackOf 104 = .ok (.iload_n 3, 1) := by decide +kernel
theorem dX2_slackOf_105 : decode cX2_slackOf 105 = .ok (.iaload, 1) := by decide +kernel
theorem dX2_slackOf_106 : decode cX2_slackOf 106 = .ok (.iload 4, 2) := by decide +kernel
theorem dX2_slackOf_108 : decode cX2_slackOf 108 = .ok (.invokevirtual 171, 3) := by decide +kernel
theorem dX2_slackOf_111 : decode cX2_slackOf 111 = .ok (.iinc 2 (-1), 3) := by decide +kernel
theorem dX2_slackOf_114 : decode cX2_slackOf 114 = .ok (.goto (-64), 3) := by decide +kernel
theorem dX2_slackOf_117 : decode cX2_slackOf 117 = .ok (.aload_n 0, 1) := by decide +kernel
theorem dX2_slackOf_118 : decode cX2_slackOf 118 = .ok (.getfield 45, 3) := by decide +kernel
theorem dX2_slackOf_121 : decode cX2_slackOf 121 = .ok (.iload_n 1, 1) := by decide +kernel
theorem dX2_slackOf_122 : decode cX2_slackOf 122 = .ok (.iaload, 1) := by decide +kernel
theorem dX2_slackOf_123 : decode cX2_slackOf 123 = .ok (.aload_n 0, 1) := by decide +kernel
theorem dX2_slackOf_124 : decode cX2_slackOf 124 = .ok (.getfield 12, 3) := by decide +kernel
theorem dX2_slackOf_127 : decode cX2_slackOf 127 = .ok (.getfield 108, 3) := by decide +kernel
theorem dX2_slackOf_130 : decode cX2_slackOf 130 = .ok (.iload_n 1, 1) := by decide +kernel
theorem dX2_slackOf_131 : decode cX2_slackOf 131 = .ok (.iaload, 1) := by decide +kernel
theorem dX2_slackOf_132 : decode cX2_slackOf 132 = .ok (.isub, 1) := by decide +kernel
theorem dX2_slackOf_133 : decode cX2_slackOf 133 = .ok (.sipush 5000, 3) := by decide +kernel
theorem dX2_slackOf_136 : decode cX2_slackOf 136 = .ok (.invokestatic 150, 3) := by decide +kernel
theorem dX2_slackOf_139 : decode cX2_slackOf 139 = .ok (.ireturn, 1) := by decide +kernel
theorem okX2_slackOf : CalOK yX2_slackOf cX2_slackOf 5 (some .int) 1 := ⟨wd_17, wd_302, by decide +kernel⟩
theorem ovX2_slackOf : VirOK yX2_slackOf := ⟨wd_301, wd_1⟩
def FX2_slackOf_50s (k50 : Int32 → Int32 → Blk → Option (Int32 × Blk)) (l1 : Int32) (l2 : Int32) (B : Blk) : Option (Int32 × Blk) :=
  if l2 < 0 then
    ld (B 20) 24 l1 fun v8 =>
    ld (B 6) 24 l1 fun v11 =>
    lt1 (if (5000 : Int32) < (v8 - v11) then (5000 : Int32) else (v8 - v11)) fun x14 =>
    some (x14, B)
  else
    ld (B 7) 24 l2 fun v16 =>
    ld (B 20) 24 v16 fun v19 =>
    ld (B 4) 24 v16 fun v22 =>
    lt1 (v19 - v22) fun x25 =>
    c1 (FX4_inFrontOf B v16) fun r27 =>
    c1 (FX2_lowerLatestEnd B r27 x25) fun B31 =>
    ld (B31 5) 24 v16 fun v32 =>
    c1 (FX2_lowerLatestEnd B31 v32 x25) fun B37 =>
    lt1 (l2 + (-1 : Int32)) fun x38 =>
    k50 l1 x38 B37
set_option maxRecDepth 100000 in
set_option maxHeartbeats 4000000 in
theorem wX2_slackOf_50s {E : WE} {V : VT} {A : Nat → Prop} {H0 : Heap} {M : Mem} {j : Nat} (hj : j < 11) (Cx : CX E RX2 cX2_slackOf 5 3 83) {r : Int32} {B' : Blk} (hret : RetI E V A H0 cX2_slackOf .int r (jb M j B')) {k50 : Int32 → Int32 → Blk → Option (Int32 × Blk)} (hk50 : ∀ {H : Heap} {locs : List Loc} {ls : Array Slot} {B : Blk} {l1 : Int32} {l2 : Int32}, Wd V A H0 (jb M j B) (eS E) H locs → lv_has ls 5 [(0, .ref (vA V j 0)), (1, .int l1), (2, .int l2)] → k50 l1 l2 B = some (r, B') → Wq E H locs 50 ls []) {H : Heap} {locs : List Loc} {ls : Array Slot} {l1 : Int32} {l2 : Int32} {B : Blk} (hW : Wd V A H0 (jb M j B) (eS E) H locs) (hl : lv_has ls 5 [(0, .ref (vA V j 0)), (1, .int l1), (2, .int l2)]) (hF : FX2_slackOf_50s k50 l1 l2 B = some (r, B')) : Wq E H locs 50 ls [] := by
  unfold FX2_slackOf_50s at hF
  refine q_iload_n Cx dX2_slackOf_50 rfl (lv_at hl 2 rfl) ?_
  refine q_if_lt (tgt := 117) Cx dX2_slackOf_51 (by decide) (fun c7 => ?_) (fun c7 => ?_)
  · have hF := (if_pos c7).symm.trans hF
    refine q_aload_n Cx dX2_slackOf_117 rfl (lv_at hl 0 rfl) ?_
    refine q_get (v := .ref (vA V j 20)) Cx hW (oM hj) ic2 8 (by decide) rfl wd_125 dX2_slackOf_118 ?_
    refine q_iload_n Cx dX2_slackOf_121 rfl (lv_at hl 1 rfl) ?_
    obtain ⟨h9, v8, e10, hF⟩ := ld_some hF
    refine qb_iald Cx hW (ai_20 hj) h9 e10 dX2_slackOf_122 ?_
    refine q_aload_n Cx dX2_slackOf_123 rfl (lv_at hl 0 rfl) ?_
    refine q_get (v := .ref (vA V j 1)) Cx hW (oM hj) ic2 0 (by decide) rfl wd_113 dX2_slackOf_124 ?_
    refine q_get (v := .ref (vA V j 6)) Cx hW (oP hj) ic4 4 (by decide) rfl wd_53 dX2_slackOf_127 ?_
    refine q_iload_n Cx dX2_slackOf_130 rfl (lv_at hl 1 rfl) ?_
    obtain ⟨h12, v11, e13, hF⟩ := ld_some hF
    refine qb_iald Cx hW (ai_6 hj) h12 e13 dX2_slackOf_131 ?_
    refine q_isub Cx dX2_slackOf_132 ?_
    refine q_sipush (v := (5000 : Int32)) Cx dX2_slackOf_133 (by decide) ?_
    obtain ⟨x14, e15, hF⟩ := lt1_some hF
    refine q_min Cx wd_316 wd_317 wd_23 wd_318 hl.1 (by decide) (Nat.le_of_ble_eq_true rfl) e15.symm dX2_slackOf_136 ?_
    obtain ⟨rfl, rfl⟩ := Prod.mk.inj (Option.some.inj hF)
    exact hret _ _ _ _ dX2_slackOf_139 (nI32 _) hW
  · have hF := (if_neg c7).symm.trans hF
    refine q_aload_n Cx dX2_slackOf_54 rfl (lv_at hl 0 rfl) ?_
    refine q_get (v := .ref (vA V j 1)) Cx hW (oM hj) ic2 0 (by decide) rfl wd_113 dX2_slackOf_55 ?_
    refine q_get (v := .ref (vA V j 7)) Cx hW (oP hj) ic4 5 (by decide) rfl wd_55 dX2_slackOf_58 ?_
    refine q_iload_n Cx dX2_slackOf_61 rfl (lv_at hl 2 rfl) ?_
    obtain ⟨h17, v16, e18, hF⟩ := ld_some hF
    refine qb_iald Cx hW (ai_7 hj) h17 e18 dX2_slackOf_62 ?_
    refine q_istore_n (lv' := [(3, .int v16), (0, .ref (vA V j 0)), (1, .int l1), (2, .int l2)]) Cx dX2_slackOf_63 rfl hl (by decide) rfl (fun ls hl => ?_)
    refine q_aload_n Cx dX2_slackOf_64 rfl (lv_at hl 1 rfl) ?_
    refine q_get (v := .ref (vA V j 20)) Cx hW (oM hj) ic2 8 (by decide) rfl wd_125 dX2_slackOf_65 ?_
    refine q_iload_n Cx dX2_slackOf_68 rfl (lv_at hl 0 rfl) ?_
    obtain ⟨h20, v19, e21, hF⟩ := ld_some hF
    refine qb_iald Cx hW (ai_20 hj) h20 e21 dX2_slackOf_69 ?_
    refine q_aload_n Cx dX2_slackOf_70 rfl (lv_at hl 1 rfl) ?_
    refine q_get (v := .ref (vA V j 1)) Cx hW (oM hj) ic2 0 (by decide) rfl wd_113 dX2_slackOf_71 ?_
    refine q_get (v := .ref (vA V j 4)) Cx hW (oP hj) ic4 2 (by decide) rfl wd_49 dX2_slackOf_74 ?_
    refine q_iload_n Cx dX2_slackOf_77 rfl (lv_at hl 0 rfl) ?_
    obtain ⟨h23, v22, e24, hF⟩ := ld_some hF
    refine qb_iald Cx hW (ai_4 hj) h23 e24 dX2_slackOf_78 ?_
    refine q_isub Cx dX2_slackOf_79 ?_
    obtain ⟨x25, e26, hF⟩ := lt1_some hF
    refine q_topi e26 ?_
    refine q_istore (lv' := [(4, .int x25), (3, .int v16), (0, .ref (vA V j 0)), (1, .int l1), (2, .int l2)]) Cx dX2_slackOf_80 hl (by decide) rfl (fun ls hl => ?_)
    refine q_aload_n Cx dX2_slackOf_82 rfl (lv_at hl 2 rfl) ?_
    refine q_aload_n Cx dX2_slackOf_83 rfl (lv_at hl 2 rfl) ?_
    refine q_get (v := .ref (vA V j 1)) Cx hW (oM hj) ic2 0 (by decide) rfl wd_113 dX2_slackOf_84 ?_
    refine q_iload_n Cx dX2_slackOf_87 rfl (lv_at hl 1 rfl) ?_
    obtain ⟨r27, e28, hF⟩ := c1_some hF
    refine q_callI (as := [.int v16]) (rest := [.ref (vA V j 0)]) Cx (kX4_inFrontOf hj e28) okX4_inFrontOf ovX4_inFrontOf wd_307 ⟨rfl, rfl, by decide, by decide⟩ hW (oP hj) ic4 rfl hl.1 (Nat.le_of_ble_eq_true rfl) rfl dX2_slackOf_88 (fun H locs hW => ?_)
    refine q_iload Cx dX2_slackOf_91 (lv_at hl 0 rfl) ?_
    obtain ⟨B31, e30, hF⟩ := c1_some hF
    refine q_callV (as := [.int r27, .int x25]) (rest := []) Cx (kX2_lowerLatestEnd hj e30) okX2_lowerLatestEnd ovX2_lowerLatestEnd wd_312 ⟨rfl, rfl, by decide, by decide⟩ hW (oM hj) ic2 rfl hl.1 (Nat.le_of_ble_eq_true rfl) rfl dX2_slackOf_93 (fun H locs hW => ?_)
    refine q_aload_n Cx dX2_slackOf_96 rfl (lv_at hl 2 rfl) ?_
    refine q_aload_n Cx dX2_slackOf_97 rfl (lv_at hl 2 rfl) ?_
    refine q_get (v := .ref (vA V j 1)) Cx hW (oM hj) ic2 0 (by decide) rfl wd_113 dX2_slackOf_98 ?_
    refine q_get (v := .ref (vA V j 5)) Cx hW (oP hj) ic4 3 (by decide) rfl wd_51 dX2_slackOf_101 ?_
    refine q_iload_n Cx dX2_slackOf_104 rfl (lv_at hl 1 rfl) ?_
    obtain ⟨h33, v32, e34, hF⟩ := ld_some hF
    refine qb_iald Cx hW (ai_5 hj) h33 e34 dX2_slackOf_105 ?_
    refine q_iload Cx dX2_slackOf_106 (lv_at hl 0 rfl) ?_
    obtain ⟨B37, e36, hF⟩ := c1_some hF
    refine q_callV (as := [.int v32, .int x25]) (rest := []) Cx (kX2_lowerLatestEnd hj e36) okX2_lowerLatestEnd ovX2_lowerLatestEnd wd_312 ⟨rfl, rfl, by decide, by decide⟩ hW (oM hj) ic2 rfl hl.1 (Nat.le_of_ble_eq_true rfl) rfl dX2_slackOf_108 (fun H locs hW => ?_)
    obtain ⟨x38, e39, hF⟩ := lt1_some hF
    refine q_iinc (k := 4) (v := x38) (lv' := [(2, .int x38), (4, .int x25), (3, .int v16), (0, .ref (vA V j 0)), (1, .int l1)]) Cx dX2_slackOf_111 hl rfl e39.symm (by decide) rfl (fun ls hl => ?_)
    refine q_goto (tgt := 50) Cx dX2_slackOf_114 (by decide) ?_
    exact hk50 hW (lv_sub hl [3, 4, 0] rfl) hF
def FX2_slackOf_50 : Nat → Int32 → Int32 → Blk → Option (Int32 × Blk)
  | 0 => fun _ _ _ => none
  | n + 1 => FX2_slackOf_50s (FX2_slackOf_50 n)
set_option maxRecDepth 100000 in
theorem wX2_slackOf_50 {E : WE} {V : VT} {A : Nat → Prop} {H0 : Heap} {M : Mem} {j : Nat} (hj : j < 11) (Cx : CX E RX2 cX2_slackOf 5 3 83) {r : Int32} {B' : Blk} (hret : RetI E V A H0 cX2_slackOf .int r (jb M j B')) : ∀ (n : Nat) {H : Heap} {locs : List Loc} {ls : Array Slot} {l1 : Int32} {l2 : Int32} {B : Blk}, Wd V A H0 (jb M j B) (eS E) H locs → lv_has ls 5 [(0, .ref (vA V j 0)), (1, .int l1), (2, .int l2)] → FX2_slackOf_50 n l1 l2 B = some (r, B') → Wq E H locs 50 ls [] := by
  intro n
  induction n with
  | zero => intro _ _ _ _ _ _ hW hl hF; cases hF
  | succ n ih => intro _ _ _ _ _ _ hW hl hF; exact wX2_slackOf_50s hj Cx hret ih hW hl hF
def FX2_slackOf_11s (k11 : Int32 → Int32 → Blk → Option (Int32 × Blk)) (l1 : Int32) (l2 : Int32) (B : Blk) : Option (Int32 × Blk) :=
  if ((B 1) 0) ≤ l2 then
    lt1 (((B 1) 0) - (1 : Int32)) fun x5 =>
    FX2_slackOf_50 fu l1 x5 B
  else
    ld (B 16) 24 l2 fun v40 =>
    stb B 20 24 l2 v40 fun B43 =>
    lt1 (l2 + (1 : Int32)) fun x46 =>
    k11 l1 x46 B43
set_option maxRecDepth 100000 in
set_option maxHeartbeats 4000000 in
theorem wX2_slackOf_11s {E : WE} {V : VT} {A : Nat → Prop} {H0 : Heap} {M : Mem} {j : Nat} (hj : j < 11) (Cx : CX E RX2 cX2_slackOf 5 3 83) {r : Int32} {B' : Blk} (hret : RetI E V A H0 cX2_slackOf .int r (jb M j B')) {k11 : Int32 → Int32 → Blk → Option (Int32 × Blk)} (hk11 : ∀ {H : Heap} {locs : List Loc} {ls : Array Slot} {B : Blk} {l1 : Int32} {l2 : Int32}, Wd V A H0 (jb M j B) (eS E) H locs → lv_has ls 5 [(0, .ref (vA V j 0)), (1, .int l1), (2, .int l2)] → k11 l1 l2 B = some (r, B') → Wq E H locs 11 ls []) {H : Heap} {locs : List Loc} {ls : Array Slot} {l1 : Int32} {l2 : Int32} {B : Blk} (hW : Wd V A H0 (jb M j B) (eS E) H locs) (hl : lv_has ls 5 [(0, .ref (vA V j 0)), (1, .int l1), (2, .int l2)]) (hF : FX2_slackOf_11s k11 l1 l2 B = some (r, B')) : Wq E H locs 11 ls [] := by
  unfold FX2_slackOf_11s at hF
  refine q_iload_n Cx dX2_slackOf_11 rfl (lv_at hl 2 rfl) ?_
  refine q_aload_n Cx dX2_slackOf_12 rfl (lv_at hl 0 rfl) ?_
  refine q_get (v := .ref (vA V j 1)) Cx hW (oM hj) ic2 0 (by decide) rfl wd_113 dX2_slackOf_13 ?_
  refine qb_get (v := .int ((B 1) 0)) Cx hW (oP hj) ic4 0 (by decide) rfl wd_45 dX2_slackOf_16 ?_
  refine q_icmp_ge (tgt := 40) Cx dX2_slackOf_19 (by decide) (fun c4 => ?_) (fun c4 => ?_)
  · have hF := (if_pos c4).symm.trans hF
    refine q_aload_n Cx dX2_slackOf_40 rfl (lv_at hl 0 rfl) ?_
    refine q_get (v := .ref (vA V j 1)) Cx hW (oM hj) ic2 0 (by decide) rfl wd_113 dX2_slackOf_41 ?_
    refine qb_get (v := .int ((B 1) 0)) Cx hW (oP hj) ic4 0 (by decide) rfl wd_45 dX2_slackOf_44 ?_
    refine q_iconst (v := (1 : Int32)) Cx dX2_slackOf_47 (by decide) ?_
    refine q_isub Cx dX2_slackOf_48 ?_
    obtain ⟨x5, e6, hF⟩ := lt1_some hF
    refine q_topi e6 ?_
    refine q_istore_n (lv' := [(2, .int x5), (0, .ref (vA V j 0)), (1, .int l1)]) Cx dX2_slackOf_49 rfl hl (by decide) rfl (fun ls hl => ?_)
    exact wX2_slackOf_50 hj Cx hret fu hW (lv_sub hl [1, 2, 0] rfl) hF
  · have hF := (if_neg c4).symm.trans hF
    refine q_aload_n Cx dX2_slackOf_22 rfl (lv_at hl 0 rfl) ?_
    refine q_get (v := .ref (vA V j 20)) Cx hW (oM hj) ic2 8 (by decide) rfl wd_125 dX2_slackOf_23 ?_
    refine q_iload_n Cx dX2_slackOf_26 rfl (lv_at hl 2 rfl) ?_
    refine q_aload_n Cx dX2_slackOf_27 rfl (lv_at hl 0 rfl) ?_
    refine q_get (v := .ref (vA V j 16)) Cx hW (oM hj) ic2 4 (by decide) rfl wd_119 dX2_slackOf_28 ?_
    refine q_iload_n Cx dX2_slackOf_31 rfl (lv_at hl 2 rfl) ?_
    obtain ⟨h41, v40, e42, hF⟩ := ld_some hF
    refine qb_iald Cx hW (ai_16 hj) h41 e42 dX2_slackOf_32 ?_
    obtain ⟨h44, B43, e45, hF⟩ := stb_some hF
    refine qb_iast Cx hW (ai_20 hj) h44 e45 dX2_slackOf_33 (fun H locs hW => ?_)
    obtain ⟨x46, e47, hF⟩ := lt1_some hF
    refine q_iinc (k := 2) (v := x46) (lv' := [(2, .int x46), (0, .ref (vA V j 0)), (1, .int l1)]) Cx dX2_slackOf_34 hl rfl e47.symm (by decide) rfl (fun ls hl => ?_)
    refine q_goto (tgt := 11) Cx dX2_slackOf_37 (by decide) ?_
    exact hk11 hW (lv_sub hl [1, 2, 0] rfl) hF
def FX2_slackOf_11 : Nat → Int32 → Int32 → Blk → Option (Int32 × Blk)
  | 0 => fun _ _ _ => none
  | n + 1 => FX2_slackOf_11s (FX2_slackOf_11 n)
set_option maxRecDepth 100000 in
theorem wX2_slackOf_11 {E : WE} {V : VT} {A : Nat → Prop} {H0 : Heap} {M : Mem} {j : Nat} (hj : j < 11) (Cx : CX E RX2 cX2_slackOf 5 3 83) {r : Int32} {B' : Blk} (hret : RetI E V A H0 cX2_slackOf .int r (jb M j B')) : ∀ (n : Nat) {H : Heap} {locs : List Loc} {ls : Array Slot} {l1 : Int32} {l2 : Int32} {B : Blk}, Wd V A H0 (jb M j B) (eS E) H locs → lv_has ls 5 [(0, .ref (vA V j 0)), (1, .int l1), (2, .int l2)] → FX2_slackOf_11 n l1 l2 B = some (r, B') → Wq E H locs 11 ls [] := by
  intro n
  induction n with
  | zero => intro _ _ _ _ _ _ hW hl hF; cases hF
  | succ n ih => intro _ _ _ _ _ _ hW hl hF; exact wX2_slackOf_11s hj Cx hret ih hW hl hF
def FX2_slackOf (B : Blk) (l1 : Int32) : Option (Int32 × Blk) :=
  c1 (FX2_lateTogether B) fun r1 =>
  if r1 ≤ 0 then
    FX2_slackOf_11 fu l1 (0 : Int32) B
  else
    some ((0 : Int32), B)
set_option maxRecDepth 100000 in
set_option maxHeartbeats 4000000 in
theorem wX2_slackOf {E : WE} {V : VT} {A : Nat → Prop} {H0 : Heap} {M : Mem} {j : Nat} (hj : j < 11) (Cx : CX E RX2 cX2_slackOf 5 3 83) {r : Int32} {B' : Blk} (hret : RetI E V A H0 cX2_slackOf .int r (jb M j B')) {H : Heap} {locs : List Loc} {ls : Array Slot} {l1 : Int32} {B : Blk} (hW : Wd V A H0 (jb M j B) (eS E) H locs) (hl : lv_has ls 5 [(0, .ref (vA V j 0)), (1, .int l1)]) (hF : FX2_slackOf B l1 = some (r, B')) : Wq E H locs 0 ls [] := by
  unfold FX2_slackOf at hF
  refine q_aload_n Cx dX2_slackOf_0 rfl (lv_at hl 0 rfl) ?_
  obtain ⟨r1, e2, hF⟩ := c1_some hF
  refine q_callI (as := []) (rest := []) Cx (kX2_lateTogether hj e2) okX2_lateTogether ovX2_lateTogether wd_303 ⟨rfl, rfl, by decide, by decide⟩ hW (oM hj) ic2 rfl hl.1 (Nat.le_of_ble_eq_true rfl) rfl dX2_slackOf_1 (fun H locs hW => ?_)
  refine q_if_le (tgt := 9) Cx dX2_slackOf_4 (by decide) (fun c3 => ?_) (fun c3 => ?_)
  · have hF := (if_pos c3).symm.trans hF
    refine q_iconst (v := (0 : Int32)) Cx dX2_slackOf_9 (by decide) ?_
    refine q_istore_n (lv' := [(2, .int (0 : Int32)), (0, .ref (vA V j 0)), (1, .int l1)]) Cx dX2_slackOf_10 rfl hl (by decide) rfl (fun ls hl => ?_)
    exact wX2_slackOf_11 hj Cx hret fu hW (lv_sub hl [1, 2, 0] rfl) hF
  · have hF := (if_neg c3).symm.trans hF
    refine q_iconst (v := (0 : Int32)) Cx dX2_slackOf_7 (by decide) ?_
    obtain ⟨rfl, rfl⟩ := Prod.mk.inj (Option.some.inj hF)
    exact hret _ _ _ _ dX2_slackOf_8 (nI32 _) hW
set_option maxRecDepth 100000 in
theorem kX2_slackOf {l : Launch} {V : VT} {M : Mem} {j : Nat} (hj : j < 11) {B : Blk} {l1 : Int32} {r : Int32} {B' : Blk} (hF : FX2_slackOf B l1 = some (r, B')) : MetI l V yX2_slackOf cX2_slackOf 5 .int ({ frames := 3, cells := 0, slots := 0, locals := 83 } : Room) [.ref (vA V j 0), .int l1] r (jb M j B) (jb M j B') := metI_of (by decide) (Nat.le_of_ble_eq_true rfl) (fun E H0 _ Cx hret H locs ls hW hl => wX2_slackOf hj Cx hret hW hl hF)
theorem dX2_tellOfTask_0 : decode cX2_tellOfTask 0 = .ok (.aload_n 0, 1) := by decide +kernel
theorem dX2_tellOfTask_1 : decode cX2_tellOfTask 1 = .ok (.getfield 12, 3) := by decide +kernel
theorem dX2_tellOfTask_4 : decode cX2_tellOfTask 4 = .ok (.iload_n 1, 1) := by decide +kernel
theorem dX2_tellOfTask_5 : decode cX2_tellOfTask 5 = .ok (.invokevirtual 61, 3) := by decide +kernel
theorem dX2_tellOfTask_8 : decode cX2_tellOfTask 8 = .ok (.ifCond .ne 5, 3) := by decide +kernel
theorem dX2_tellOfTask_11 : decode cX2_tellOfTask 11 = .ok (.iconst (-1), 1) := by decide +kernel
theorem dX2_tellOfTask_12 : decode cX2_tellOfTask 12 = .ok (.ireturn, 1) := by decide +kernel
theorem dX2_tellOfTask_13 : decode cX2_tellOfTask 13 = .ok (.iload_n 2, 1) := by decide +kernel
theorem dX2_tellOfTask_14 : decode cX2_tellOfTask 14 = .ok (.tableswitch 186 0 13 #[70, 80, 90, 100, 109, 118, 127, 133, 139, 145, 152, 159, 168, 177], 70) := by decide +kernel
theorem dX2_tellOfTask_84 : decode cX2_tellOfTask 84 = .ok (.aload_n 0, 1) := by decide +kernel
theorem dX2_tellOfTask_85 : decode cX2_tellOfTask 85 = .ok (.getfield 12, 3) := by decide +kernel
theorem dX2_tellOfTask_88 : decode cX2_tellOfTask 88 = .ok (.getfield 83, 3) := by decide +kernel
theorem dX2_tellOfTask_91 : decode cX2_tellOfTask 91 = .ok (.iload_n 1, 1) := by decide +kernel
theorem dX2_tellOfTask_92 : decode cX2_tellOfTask 92 = .ok (.iaload, 1) := by decide +kernel
theorem dX2_tellOfTask_93 : decode cX2_tellOfTask 93 = .ok (.ireturn, 1) := by decide +kernel
theorem dX2_tellOfTask_94 : decode cX2_tellOfTask 94 = .ok (.aload_n 0, 1) := by decide +kernel
theorem dX2_tellOfTask_95 : decode cX2_tellOfTask 95 = .ok (.getfield 12, 3) := by decide +kernel
theorem dX2_tellOfTask_98 : decode cX2_tellOfTask 98 = .ok (.getfield 77, 3) := by decide +kernel
theorem dX2_tellOfTask_101 : decode cX2_tellOfTask 101 = .ok (.iload_n 1, 1) := by decide +kernel
theorem dX2_tellOfTask_102 : decode cX2_tellOfTask 102 = .ok (.iaload, 1) := by decide +kernel
theorem dX2_tellOfTask_103 : decode cX2_tellOfTask 103 = .ok (.ireturn, 1) := by decide +kernel
theorem dX2_tellOfTask_104 : decode cX2_tellOfTask 104 = .ok (.aload_n 0, 1) := by decide +kernel
theorem dX2_tellOfTask_105 : decode cX2_tellOfTask 105 = .ok (.getfield 12, 3) := by decide +kernel
theorem dX2_tellOfTask_108 : decode cX2_tellOfTask 108 = .ok (.getfield 174, 3) := by decide +kernel
theorem dX2_tellOfTask_111 : decode cX2_tellOfTask 111 = .ok (.iload_n 1, 1) := by decide +kernel
theorem dX2_tellOfTask_112 : decode cX2_tellOfTask 112 = .ok (.iaload, 1) := by decide +kernel
theorem dX2_tellOfTask_113 : decode cX2_tellOfTask 113 = .ok (.ireturn, 1) := by decide +kernel
theorem dX2_tellOfTask_114 : decode cX2_tellOfTask 114 = .ok (.aload_n 0, 1) := by decide +kernel
theorem dX2_tellOfTask_115 : decode cX2_tellOfTask 115 = .ok (.getfield 12, 3) := by decide +kernel
theorem dX2_tellOfTask_118 : decode cX2_tellOfTask 118 = .ok (.iload_n 1, 1) := by decide +kernel
theorem dX2_tellOfTask_119 : decode cX2_tellOfTask 119 = .ok (.invokevirtual 86, 3) := by decide +kernel
theorem dX2_tellOfTask_122 : decode cX2_tellOfTask 122 = .ok (.ireturn, 1) := by decide +kernel
theorem dX2_tellOfTask_123 : decode cX2_tellOfTask 123 = .ok (.aload_n 0, 1) := by decide +kernel
theorem dX2_tellOfTask_124 : decode cX2_tellOfTask 124 = .ok (.getfield 12, 3) := by decide +kernel
theorem dX2_tellOfTask_127 : decode cX2_tellOfTask 127 = .ok (.iload_n 1, 1) := by decide +kernel
theorem dX2_tellOfTask_128 : decode cX2_tellOfTask 128 = .ok (.invokevirtual 177, 3) := by decide +kernel
theorem dX2_tellOfTask_131 : decode cX2_tellOfTask 131 = .ok (.ireturn, 1) := by decide +kernel
theorem dX2_tellOfTask_132 : decode cX2_tellOfTask 132 = .ok (.aload_n 0, 1) := by decide +kernel
theorem dX2_tellOfTask_133 : decode cX2_tellOfTask 133 = .ok (.getfield 12, 3) := by decide +kernel
theorem dX2_tellOfTask_136 : decode cX2_tellOfTask 136 = .ok (.iload_n 1, 1) := by decide +kernel
theorem dX2_tellOfTask_137 : decode cX2_tellOfTask 137 = .ok (.invokevirtual 180, 3) := by decide +kernel
theorem dX2_tellOfTask_140 : decode cX2_tellOfTask 140 = .ok (.ireturn, 1) := by decide +kernel
theorem dX2_tellOfTask_141 : decode cX2_tellOfTask 141 = .ok (.aload_n 0, 1) := by decide +kernel
theorem dX2_tellOfTask_142 : decode cX2_tellOfTask 142 = .ok (.iload_n 1, 1) := by decide +kernel
theorem dX2_tellOfTask_143 : decode cX2_tellOfTask 143 = .ok (.invokevirtual 125, 3) := by decide +kernel
theorem dX2_tellOfTask_146 : decode cX2_tellOfTask 146 = .ok (.ireturn, 1) := by decide +kernel
theorem dX2_tellOfTask_147 : decode cX2_tellOfTask 147 = .ok (.aload_n 0, 1) := by decide +kernel
theorem dX2_tellOfTask_148 : decode cX2_tellOfTask 148 = .ok (.iload_n 1, 1) := by decide +kernel
theorem dX2_tellOfTask_149 : decode cX2_tellOfTask 149 = .ok (.invokevirtual 147, 3) := by decide +kernel
theorem dX2_tellOfTask_152 : decode cX2_tellOfTask 152 = .ok (.ireturn, 1) := by decide +kernel
theorem dX2_tellOfTask_153 : decode cX2_tellOfTask 153 = .ok (.aload_n 0, 1) := by decide +kernel
theorem dX2_tellOfTask_154 : decode cX2_tellOfTask 154 = .ok (.iload_n 1, 1) := by decide +kernel
theorem dX2_tellOfTask_155 : decode cX2_tellOfTask 155 = .ok (.invokevirtual 183, 3) := by decide +kernel
theorem dX2_tellOfTask_158 : decode cX2_tellOfTask 158 = .ok (.ireturn, 1) := by decide +kernel
theorem dX2_tellOfTask_159 : decode cX2_tellOfTask 159 = .ok (.aload_n 0, 1) := by decide +kernel
theorem dX2_tellOfTask_160 : decode cX2_tellOfTask 160 = .ok (.getfield 39, 3) := by decide +kernel
theorem dX2_tellOfTask_163 : decode cX2_tellOfTask 163 = .ok (.iload_n 1, 1) := by decide +kernel
theorem dX2_tellOfTask_164 : decode cX2_tellOfTask 164 = .ok (.iaload, 1) := by decide +kernel
theorem dX2_tellOfTask_165 : decode cX2_tellOfTask 165 = .ok (.ireturn, 1) := by decide +kernel
theorem dX2_tellOfTask_166 : decode cX2_tellOfTask 166 = .ok (.aload_n 0, 1) := by decide +kernel
theorem dX2_tellOfTask_167 : decode cX2_tellOfTask 167 = .ok (.getfield 42, 3) := by decide +kernel
theorem dX2_tellOfTask_170 : decode cX2_tellOfTask 170 = .ok (.iload_n 1, 1) := by decide +kernel
theorem dX2_tellOfTask_171 : decode cX2_tellOfTask 171 = .ok (.iaload, 1) := by decide +kernel
theorem dX2_tellOfTask_172 : decode cX2_tellOfTask 172 = .ok (.ireturn, 1) := by decide +kernel
theorem dX2_tellOfTask_173 : decode cX2_tellOfTask 173 = .ok (.aload_n 0, 1) := by decide +kernel
theorem dX2_tellOfTask_174 : decode cX2_tellOfTask 174 = .ok (.getfield 21, 3) := by decide +kernel
theorem dX2_tellOfTask_177 : decode cX2_tellOfTask 177 = .ok (.iload_n 1, 1) := by decide +kernel
theorem dX2_tellOfTask_178 : decode cX2_tellOfTask 178 = .ok (.invokevirtual 186, 3) := by decide +kernel
theorem dX2_tellOfTask_181 : decode cX2_tellOfTask 181 = .ok (.ireturn, 1) := by decide +kernel
theorem dX2_tellOfTask_182 : decode cX2_tellOfTask 182 = .ok (.aload_n 0, 1) := by decide +kernel
theorem dX2_tellOfTask_183 : decode cX2_tellOfTask 183 = .ok (.getfield 21, 3) := by decide +kernel
theorem dX2_tellOfTask_186 : decode cX2_tellOfTask 186 = .ok (.iload_n 1, 1) := by decide +kernel
theorem dX2_tellOfTask_187 : decode cX2_tellOfTask 187 = .ok (.invokevirtual 189, 3) := by decide +kernel
theorem dX2_tellOfTask_190 : decode cX2_tellOfTask 190 = .ok (.ireturn, 1) := by decide +kernel
theorem dX2_tellOfTask_191 : decode cX2_tellOfTask 191 = .ok (.aload_n 0, 1) := by decide +kernel
theorem dX2_tellOfTask_192 : decode cX2_tellOfTask 192 = .ok (.getfield 12, 3) := by decide +kernel
theorem dX2_tellOfTask_195 : decode cX2_tellOfTask 195 = .ok (.iload_n 1, 1) := by decide +kernel
theorem dX2_tellOfTask_196 : decode cX2_tellOfTask 196 = .ok (.invokevirtual 192, 3) := by decide +kernel
theorem dX2_tellOfTask_199 : decode cX2_tellOfTask 199 = .ok (.ireturn, 1) := by decide +kernel
theorem dX2_tellOfTask_200 : decode cX2_tellOfTask 200 = .ok (.bipush (-2), 2) := by decide +kernel
theorem dX2_tellOfTask_202 : decode cX2_tellOfTask 202 = .ok (.ireturn, 1) := by decide +kernel
theorem okX2_tellOfTask : CalOK yX2_tellOfTask cX2_tellOfTask 3 (some .int) 2 := ⟨wd_17, wd_280, by decide +kernel⟩
theorem ovX2_tellOfTask : VirOK yX2_tellOfTask := ⟨wd_278, wd_279⟩
def FX2_tellOfTask (B : Blk) (l1 : Int32) (l2 : Int32) : Option (Int32 × Blk) :=
  c1 (FX4_has B l1) fun r1 =>
  if r1 = 0 then
    some ((-1 : Int32), B)
  else
    if l2 = (0 : Int32) then
      ld (B 3) 24 l1 fun v5 =>
      some (v5, B)
    else
      if l2 = (1 : Int32) then
        ld (B 4) 24 l1 fun v9 =>
        some (v9, B)
      else
        if l2 = (2 : Int32) then
          ld (B 5) 24 l1 fun v13 =>
          some (v13, B)
        else
          if l2 = (3 : Int32) then
            c1 (FX4_placeOf B l1) fun r17 =>
            some (r17, B)
          else
            if l2 = (4 : Int32) then
              c1 (FX4_startOf B l1) fun r20 =>
              some (r20, B)
            else
              if l2 = (5 : Int32) then
                c1 (FX4_endOf B l1) fun r23 =>
                some (r23, B)
              else
                if l2 = (6 : Int32) then
                  c1 (FX2_lateOf B l1) fun r26 =>
                  some (r26, B)
                else
                  if l2 = (7 : Int32) then
                    c1 (FX2_spareOf B l1) fun r29 =>
                    some (r29, B)
                  else
                    if l2 = (8 : Int32) then
                      c2 (FX2_slackOf B l1) fun r32 B34 =>
                      some (r32, B34)
                    else
                      if l2 = (9 : Int32) then
                        ld (B 18) 24 l1 fun v36 =>
                        some (v36, B)
                      else
                        if l2 = (10 : Int32) then
                          ld (B 19) 24 l1 fun v40 =>
                          some (v40, B)
                        else
                          if l2 = (11 : Int32) then
                            c1 (FX0_soldBy B l1) fun r44 =>
                            some (r44, B)
                          else
                            if l2 = (12 : Int32) then
                              c1 (FX0_boughtBy B l1) fun r47 =>
                              some (r47, B)
                            else
                              if l2 = (13 : Int32) then
                                c1 (FX4_followersOf B l1) fun r50 =>
                                some (r50, B)
                              else
                                some ((-2 : Int32), B)
set_option maxRecDepth 100000 in
set_option maxHeartbeats 4000000 in
theorem wX2_tellOfTask {E : WE} {V : VT} {A : Nat → Prop} {H0 : Heap} {M : Mem} {j : Nat} (hj : j < 11) (Cx : CX E RX2 cX2_tellOfTask 3 4 107) {r : Int32} {B' : Blk} (hret : RetI E V A H0 cX2_tellOfTask .int r (jb M j B')) {H : Heap} {locs : List Loc} {ls : Array Slot} {l1 : Int32} {l2 : Int32} {B : Blk} (hW : Wd V A H0 (jb M j B) (eS E) H locs) (hl : lv_has ls 3 [(0, .ref (vA V j 0)), (1, .int l1), (2, .int l2)]) (hF : FX2_tellOfTask B l1 l2 = some (r, B')) : Wq E H locs 0 ls [] := by
  unfold FX2_tellOfTask at hF
  refine q_aload_n Cx dX2_tellOfTask_0 rfl (lv_at hl 0 rfl) ?_
  refine q_get (v := .ref (vA V j 1)) Cx hW (oM hj) ic2 0 (by decide) rfl wd_113 dX2_tellOfTask_1 ?_
  refine q_iload_n Cx dX2_tellOfTask_4 rfl (lv_at hl 1 rfl) ?_
  obtain ⟨r1, e2, hF⟩ := c1_some hF
  refine q_callI (as := [.int l1]) (rest := []) Cx (kX4_has hj e2) okX4_has ovX4_has wd_249 ⟨rfl, rfl, by decide, by decide⟩ hW (oP hj) ic4 rfl hl.1 (Nat.le_of_ble_eq_true rfl) rfl dX2_tellOfTask_5 (fun H locs hW => ?_)
  refine q_if_ne (tgt := 13) Cx dX2_tellOfTask_8 (by decide) (fun c3 => ?_) (fun c3 => ?_)
  · have hF := (if_neg c3).symm.trans hF
    refine q_iload_n Cx dX2_tellOfTask_13 rfl (lv_at hl 2 rfl) ?_
    by_cases c4 : l2 = (0 : Int32)
    · have hF := (if_pos c4).symm.trans hF
      refine q_tableIn (tgt := 84) Cx dX2_tellOfTask_14 (by rw [c4]; decide) (by rw [c4]; decide) (ho := by rw [c4]; rfl) (by decide) ?_
      refine q_aload_n Cx dX2_tellOfTask_84 rfl (lv_at hl 0 rfl) ?_
      refine q_get (v := .ref (vA V j 1)) Cx hW (oM hj) ic2 0 (by decide) rfl wd_113 dX2_tellOfTask_85 ?_
      refine q_get (v := .ref (vA V j 3)) Cx hW (oP hj) ic4 1 (by decide) rfl wd_47 dX2_tellOfTask_88 ?_
      refine q_iload_n Cx dX2_tellOfTask_91 rfl (lv_at hl 1 rfl) ?_
      obtain ⟨h6, v5, e7, hF⟩ := ld_some hF
      refine qb_iald Cx hW (ai_3 hj) h6 e7 dX2_tellOfTask_92 ?_
      obtain ⟨rfl, rfl⟩ := Prod.mk.inj (Option.some.inj hF)
      exact hret _ _ _ _ dX2_tellOfTask_93 (nI32 _) hW
    · have hF := (if_neg c4).symm.trans hF
      by_cases c8 : l2 = (1 : Int32)
      · have hF := (if_pos c8).symm.trans hF
        refine q_tableIn (tgt := 94) Cx dX2_tellOfTask_14 (by rw [c8]; decide) (by rw [c8]; decide) (ho := by rw [c8]; rfl) (by decide) ?_
        refine q_aload_n Cx dX2_tellOfTask_94 rfl (lv_at hl 0 rfl) ?_
        refine q_get (v := .ref (vA V j 1)) Cx hW (oM hj) ic2 0 (by decide) rfl wd_113 dX2_tellOfTask_95 ?_
        refine q_get (v := .ref (vA V j 4)) Cx hW (oP hj) ic4 2 (by decide) rfl wd_49 dX2_tellOfTask_98 ?_
        refine q_iload_n Cx dX2_tellOfTask_101 rfl (lv_at hl 1 rfl) ?_
        obtain ⟨h10, v9, e11, hF⟩ := ld_some hF
        refine qb_iald Cx hW (ai_4 hj) h10 e11 dX2_tellOfTask_102 ?_
        obtain ⟨rfl, rfl⟩ := Prod.mk.inj (Option.some.inj hF)
        exact hret _ _ _ _ dX2_tellOfTask_103 (nI32 _) hW
      · have hF := (if_neg c8).symm.trans hF
        by_cases c12 : l2 = (2 : Int32)
        · have hF := (if_pos c12).symm.trans hF
          refine q_tableIn (tgt := 104) Cx dX2_tellOfTask_14 (by rw [c12]; decide) (by rw [c12]; decide) (ho := by rw [c12]; rfl) (by decide) ?_
          refine q_aload_n Cx dX2_tellOfTask_104 rfl (lv_at hl 0 rfl) ?_
          refine q_get (v := .ref (vA V j 1)) Cx hW (oM hj) ic2 0 (by decide) rfl wd_113 dX2_tellOfTask_105 ?_
          refine q_get (v := .ref (vA V j 5)) Cx hW (oP hj) ic4 3 (by decide) rfl wd_51 dX2_tellOfTask_108 ?_
          refine q_iload_n Cx dX2_tellOfTask_111 rfl (lv_at hl 1 rfl) ?_
          obtain ⟨h14, v13, e15, hF⟩ := ld_some hF
          refine qb_iald Cx hW (ai_5 hj) h14 e15 dX2_tellOfTask_112 ?_
          obtain ⟨rfl, rfl⟩ := Prod.mk.inj (Option.some.inj hF)
          exact hret _ _ _ _ dX2_tellOfTask_113 (nI32 _) hW
        · have hF := (if_neg c12).symm.trans hF
          by_cases c16 : l2 = (3 : Int32)
          · have hF := (if_pos c16).symm.trans hF
            refine q_tableIn (tgt := 114) Cx dX2_tellOfTask_14 (by rw [c16]; decide) (by rw [c16]; decide) (ho := by rw [c16]; rfl) (by decide) ?_
            refine q_aload_n Cx dX2_tellOfTask_114 rfl (lv_at hl 0 rfl) ?_
            refine q_get (v := .ref (vA V j 1)) Cx hW (oM hj) ic2 0 (by decide) rfl wd_113 dX2_tellOfTask_115 ?_
            refine q_iload_n Cx dX2_tellOfTask_118 rfl (lv_at hl 1 rfl) ?_
            obtain ⟨r17, e18, hF⟩ := c1_some hF
            refine q_callI (as := [.int l1]) (rest := []) Cx (kX4_placeOf hj e18) okX4_placeOf ovX4_placeOf wd_281 ⟨rfl, rfl, by decide, by decide⟩ hW (oP hj) ic4 rfl hl.1 (Nat.le_of_ble_eq_true rfl) rfl dX2_tellOfTask_119 (fun H locs hW => ?_)
            obtain ⟨rfl, rfl⟩ := Prod.mk.inj (Option.some.inj hF)
            exact hret _ _ _ _ dX2_tellOfTask_122 (nI32 _) hW
          · have hF := (if_neg c16).symm.trans hF
            by_cases c19 : l2 = (4 : Int32)
            · have hF := (if_pos c19).symm.trans hF
              refine q_tableIn (tgt := 123) Cx dX2_tellOfTask_14 (by rw [c19]; decide) (by rw [c19]; decide) (ho := by rw [c19]; rfl) (by decide) ?_
              refine q_aload_n Cx dX2_tellOfTask_123 rfl (lv_at hl 0 rfl) ?_
              refine q_get (v := .ref (vA V j 1)) Cx hW (oM hj) ic2 0 (by decide) rfl wd_113 dX2_tellOfTask_124 ?_
              refine q_iload_n Cx dX2_tellOfTask_127 rfl (lv_at hl 1 rfl) ?_
              obtain ⟨r20, e21, hF⟩ := c1_some hF
              refine q_callI (as := [.int l1]) (rest := []) Cx (kX4_startOf hj e21) okX4_startOf ovX4_startOf wd_285 ⟨rfl, rfl, by decide, by decide⟩ hW (oP hj) ic4 rfl hl.1 (Nat.le_of_ble_eq_true rfl) rfl dX2_tellOfTask_128 (fun H locs hW => ?_)
              obtain ⟨rfl, rfl⟩ := Prod.mk.inj (Option.some.inj hF)
              exact hret _ _ _ _ dX2_tellOfTask_131 (nI32 _) hW
            · have hF := (if_neg c19).symm.trans hF
              by_cases c22 : l2 = (5 : Int32)
              · have hF := (if_pos c22).symm.trans hF
                refine q_tableIn (tgt := 132) Cx dX2_tellOfTask_14 (by rw [c22]; decide) (by rw [c22]; decide) (ho := by rw [c22]; rfl) (by decide) ?_
                refine q_aload_n Cx dX2_tellOfTask_132 rfl (lv_at hl 0 rfl) ?_
                refine q_get (v := .ref (vA V j 1)) Cx hW (oM hj) ic2 0 (by decide) rfl wd_113 dX2_tellOfTask_133 ?_
                refine q_iload_n Cx dX2_tellOfTask_136 rfl (lv_at hl 1 rfl) ?_
                obtain ⟨r23, e24, hF⟩ := c1_some hF
                refine q_callI (as := [.int l1]) (rest := []) Cx (kX4_endOf hj e24) okX4_endOf ovX4_endOf wd_289 ⟨rfl, rfl, by decide, by decide⟩ hW (oP hj) ic4 rfl hl.1 (Nat.le_of_ble_eq_true rfl) rfl dX2_tellOfTask_137 (fun H locs hW => ?_)
                obtain ⟨rfl, rfl⟩ := Prod.mk.inj (Option.some.inj hF)
                exact hret _ _ _ _ dX2_tellOfTask_140 (nI32 _) hW
              · have hF := (if_neg c22).symm.trans hF
                by_cases c25 : l2 = (6 : Int32)
                · have hF := (if_pos c25).symm.trans hF
                  refine q_tableIn (tgt := 141) Cx dX2_tellOfTask_14 (by rw [c25]; decide) (by rw [c25]; decide) (ho := by rw [c25]; rfl) (by decide) ?_
                  refine q_aload_n Cx dX2_tellOfTask_141 rfl (lv_at hl 0 rfl) ?_
                  refine q_iload_n Cx dX2_tellOfTask_142 rfl (lv_at hl 1 rfl) ?_
                  obtain ⟨r26, e27, hF⟩ := c1_some hF
                  refine q_callI (as := [.int l1]) (rest := []) Cx (kX2_lateOf hj e27) okX2_lateOf ovX2_lateOf wd_290 ⟨rfl, rfl, by decide, by decide⟩ hW (oM hj) ic2 rfl hl.1 (Nat.le_of_ble_eq_true rfl) rfl dX2_tellOfTask_143 (fun H locs hW => ?_)
                  obtain ⟨rfl, rfl⟩ := Prod.mk.inj (Option.some.inj hF)
                  exact hret _ _ _ _ dX2_tellOfTask_146 (nI32 _) hW
                · have hF := (if_neg c25).symm.trans hF
                  by_cases c28 : l2 = (7 : Int32)
                  · have hF := (if_pos c28).symm.trans hF
                    refine q_tableIn (tgt := 147) Cx dX2_tellOfTask_14 (by rw [c28]; decide) (by rw [c28]; decide) (ho := by rw [c28]; rfl) (by decide) ?_
                    refine q_aload_n Cx dX2_tellOfTask_147 rfl (lv_at hl 0 rfl) ?_
                    refine q_iload_n Cx dX2_tellOfTask_148 rfl (lv_at hl 1 rfl) ?_
                    obtain ⟨r29, e30, hF⟩ := c1_some hF
                    refine q_callI (as := [.int l1]) (rest := []) Cx (kX2_spareOf hj e30) okX2_spareOf ovX2_spareOf wd_295 ⟨rfl, rfl, by decide, by decide⟩ hW (oM hj) ic2 rfl hl.1 (Nat.le_of_ble_eq_true rfl) rfl dX2_tellOfTask_149 (fun H locs hW => ?_)
                    obtain ⟨rfl, rfl⟩ := Prod.mk.inj (Option.some.inj hF)
                    exact hret _ _ _ _ dX2_tellOfTask_152 (nI32 _) hW
                  · have hF := (if_neg c28).symm.trans hF
                    by_cases c31 : l2 = (8 : Int32)
                    · have hF := (if_pos c31).symm.trans hF
                      refine q_tableIn (tgt := 153) Cx dX2_tellOfTask_14 (by rw [c31]; decide) (by rw [c31]; decide) (ho := by rw [c31]; rfl) (by decide) ?_
                      refine q_aload_n Cx dX2_tellOfTask_153 rfl (lv_at hl 0 rfl) ?_
                      refine q_iload_n Cx dX2_tellOfTask_154 rfl (lv_at hl 1 rfl) ?_
                      obtain ⟨r32, B34, e33, hF⟩ := c2_some hF
                      refine q_callI (as := [.int l1]) (rest := []) Cx (kX2_slackOf hj e33) okX2_slackOf ovX2_slackOf wd_299 ⟨rfl, rfl, by decide, by decide⟩ hW (oM hj) ic2 rfl hl.1 (Nat.le_of_ble_eq_true rfl) rfl dX2_tellOfTask_155 (fun H locs hW => ?_)
                      obtain ⟨rfl, rfl⟩ := Prod.mk.inj (Option.some.inj hF)
                      exact hret _ _ _ _ dX2_tellOfTask_158 (nI32 _) hW
                    · have hF := (if_neg c31).symm.trans hF
                      by_cases c35 : l2 = (9 : Int32)
                      · have hF := (if_pos c35).symm.trans hF
                        refine q_tableIn (tgt := 159) Cx dX2_tellOfTask_14 (by rw [c35]; decide) (by rw [c35]; decide) (ho := by rw [c35]; rfl) (by decide) ?_
                        refine q_aload_n Cx dX2_tellOfTask_159 rfl (lv_at hl 0 rfl) ?_
                        refine q_get (v := .ref (vA V j 18)) Cx hW (oM hj) ic2 6 (by decide) rfl wd_123 dX2_tellOfTask_160 ?_
                        refine q_iload_n Cx dX2_tellOfTask_163 rfl (lv_at hl 1 rfl) ?_
                        obtain ⟨h37, v36, e38, hF⟩ := ld_some hF
                        refine qb_iald Cx hW (ai_18 hj) h37 e38 dX2_tellOfTask_164 ?_
                        obtain ⟨rfl, rfl⟩ := Prod.mk.inj (Option.some.inj hF)
                        exact hret _ _ _ _ dX2_tellOfTask_165 (nI32 _) hW
                      · have hF := (if_neg c35).symm.trans hF
                        by_cases c39 : l2 = (10 : Int32)
                        · have hF := (if_pos c39).symm.trans hF
                          refine q_tableIn (tgt := 166) Cx dX2_tellOfTask_14 (by rw [c39]; decide) (by rw [c39]; decide) (ho := by rw [c39]; rfl) (by decide) ?_
                          refine q_aload_n Cx dX2_tellOfTask_166 rfl (lv_at hl 0 rfl) ?_
                          refine q_get (v := .ref (vA V j 19)) Cx hW (oM hj) ic2 7 (by decide) rfl wd_124 dX2_tellOfTask_167 ?_
                          refine q_iload_n Cx dX2_tellOfTask_170 rfl (lv_at hl 1 rfl) ?_
                          obtain ⟨h41, v40, e42, hF⟩ := ld_some hF
                          refine qb_iald Cx hW (ai_19 hj) h41 e42 dX2_tellOfTask_171 ?_
                          obtain ⟨rfl, rfl⟩ := Prod.mk.inj (Option.some.inj hF)
                          exact hret _ _ _ _ dX2_tellOfTask_172 (nI32 _) hW
                        · have hF := (if_neg c39).symm.trans hF
                          by_cases c43 : l2 = (11 : Int32)
                          · have hF := (if_pos c43).symm.trans hF
                            refine q_tableIn (tgt := 173) Cx dX2_tellOfTask_14 (by rw [c43]; decide) (by rw [c43]; decide) (ho := by rw [c43]; rfl) (by decide) ?_
                            refine q_aload_n Cx dX2_tellOfTask_173 rfl (lv_at hl 0 rfl) ?_
                            refine q_get (v := .ref (vA V j 2)) Cx hW (oM hj) ic2 1 (by decide) rfl wd_115 dX2_tellOfTask_174 ?_
                            refine q_iload_n Cx dX2_tellOfTask_177 rfl (lv_at hl 1 rfl) ?_
                            obtain ⟨r44, e45, hF⟩ := c1_some hF
                            refine q_callI (as := [.int l1]) (rest := []) Cx (kX0_soldBy hj e45) okX0_soldBy ovX0_soldBy wd_319 ⟨rfl, rfl, by decide, by decide⟩ hW (oC hj) ic0 rfl hl.1 (Nat.le_of_ble_eq_true rfl) rfl dX2_tellOfTask_178 (fun H locs hW => ?_)
                            obtain ⟨rfl, rfl⟩ := Prod.mk.inj (Option.some.inj hF)
                            exact hret _ _ _ _ dX2_tellOfTask_181 (nI32 _) hW
                          · have hF := (if_neg c43).symm.trans hF
                            by_cases c46 : l2 = (12 : Int32)
                            · have hF := (if_pos c46).symm.trans hF
                              refine q_tableIn (tgt := 182) Cx dX2_tellOfTask_14 (by rw [c46]; decide) (by rw [c46]; decide) (ho := by rw [c46]; rfl) (by decide) ?_
                              refine q_aload_n Cx dX2_tellOfTask_182 rfl (lv_at hl 0 rfl) ?_
                              refine q_get (v := .ref (vA V j 2)) Cx hW (oM hj) ic2 1 (by decide) rfl wd_115 dX2_tellOfTask_183 ?_
                              refine q_iload_n Cx dX2_tellOfTask_186 rfl (lv_at hl 1 rfl) ?_
                              obtain ⟨r47, e48, hF⟩ := c1_some hF
                              refine q_callI (as := [.int l1]) (rest := []) Cx (kX0_boughtBy hj e48) okX0_boughtBy ovX0_boughtBy wd_323 ⟨rfl, rfl, by decide, by decide⟩ hW (oC hj) ic0 rfl hl.1 (Nat.le_of_ble_eq_true rfl) rfl dX2_tellOfTask_187 (fun H locs hW => ?_)
                              obtain ⟨rfl, rfl⟩ := Prod.mk.inj (Option.some.inj hF)
                              exact hret _ _ _ _ dX2_tellOfTask_190 (nI32 _) hW
                            · have hF := (if_neg c46).symm.trans hF
                              by_cases c49 : l2 = (13 : Int32)
                              · have hF := (if_pos c49).symm.trans hF
                                refine q_tableIn (tgt := 191) Cx dX2_tellOfTask_14 (by rw [c49]; decide) (by rw [c49]; decide) (ho := by rw [c49]; rfl) (by decide) ?_
                                refine q_aload_n Cx dX2_tellOfTask_191 rfl (lv_at hl 0 rfl) ?_
                                refine q_get (v := .ref (vA V j 1)) Cx hW (oM hj) ic2 0 (by decide) rfl wd_113 dX2_tellOfTask_192 ?_
                                refine q_iload_n Cx dX2_tellOfTask_195 rfl (lv_at hl 1 rfl) ?_
                                obtain ⟨r50, e51, hF⟩ := c1_some hF
                                refine q_callI (as := [.int l1]) (rest := []) Cx (kX4_followersOf hj e51) okX4_followersOf ovX4_followersOf wd_327 ⟨rfl, rfl, by decide, by decide⟩ hW (oP hj) ic4 rfl hl.1 (Nat.le_of_ble_eq_true rfl) rfl dX2_tellOfTask_196 (fun H locs hW => ?_)
                                obtain ⟨rfl, rfl⟩ := Prod.mk.inj (Option.some.inj hF)
                                exact hret _ _ _ _ dX2_tellOfTask_199 (nI32 _) hW
                              · have hF := (if_neg c49).symm.trans hF
                                refine q_tableOut (tgt := 200) Cx dX2_tellOfTask_14 (tbl_out (tbl_cons (k := (0 : Int32)) (l1 := 1) (by decide) (by decide) c4 (tbl_cons (k := (1 : Int32)) (l1 := 2) (by decide) (by decide) c8 (tbl_cons (k := (2 : Int32)) (l1 := 3) (by decide) (by decide) c12 (tbl_cons (k := (3 : Int32)) (l1 := 4) (by decide) (by decide) c16 (tbl_cons (k := (4 : Int32)) (l1 := 5) (by decide) (by decide) c19 (tbl_cons (k := (5 : Int32)) (l1 := 6) (by decide) (by decide) c22 (tbl_cons (k := (6 : Int32)) (l1 := 7) (by decide) (by decide) c25 (tbl_cons (k := (7 : Int32)) (l1 := 8) (by decide) (by decide) c28 (tbl_cons (k := (8 : Int32)) (l1 := 9) (by decide) (by decide) c31 (tbl_cons (k := (9 : Int32)) (l1 := 10) (by decide) (by decide) c35 (tbl_cons (k := (10 : Int32)) (l1 := 11) (by decide) (by decide) c39 (tbl_cons (k := (11 : Int32)) (l1 := 12) (by decide) (by decide) c43 (tbl_cons (k := (12 : Int32)) (l1 := 13) (by decide) (by decide) c46 (tbl_cons (k := (13 : Int32)) (l1 := 14) (by decide) (by decide) c49 (tbl_nil (by decide))))))))))))))))) (by decide) ?_
                                refine q_bipush (v := (-2 : Int32)) Cx dX2_tellOfTask_200 (by decide) ?_
                                obtain ⟨rfl, rfl⟩ := Prod.mk.inj (Option.some.inj hF)
                                exact hret _ _ _ _ dX2_tellOfTask_202 (nI32 _) hW
  · have hF := (if_pos c3).symm.trans hF
    refine q_iconst (v := (-1 : Int32)) Cx dX2_tellOfTask_11 (by decide) ?_
    obtain ⟨rfl, rfl⟩ := Prod.mk.inj (Option.some.inj hF)
    exact hret _ _ _ _ dX2_tellOfTask_12 (nI32 _) hW
set_option maxRecDepth 100000 in
theorem kX2_tellOfTask {l : Launch} {V : VT} {M : Mem} {j : Nat} (hj : j < 11) {B : Blk} {l1 : Int32} {l2 : Int32} {r : Int32} {B' : Blk} (hF : FX2_tellOfTask B l1 l2 = some (r, B')) : MetI l V yX2_tellOfTask cX2_tellOfTask 3 .int ({ frames := 4, cells := 0, slots := 0, locals := 107 } : Room) [.ref (vA V j 0), .int l1, .int l2] r (jb M j B) (jb M j B') := metI_of (by decide) (Nat.le_of_ble_eq_true rfl) (fun E H0 _ Cx hret H locs ls hW hl => wX2_tellOfTask hj Cx hret hW hl hF)
theorem dX2_offers_0 : decode cX2_offers 0 = .ok (.iconst 0, 1) := by decide +kernel
theorem dX2_offers_1 : decode cX2_offers 1 = .ok (.istore_n 1, 1) := by decide +kernel
theorem dX2_offers_2 : decode cX2_offers 2 = .ok (.iconst 0, 1) := by decide +kernel
theorem dX2_offers_3 : decode cX2_offers 3 = .ok (.istore_n 2, 1) := by decide +kernel
theorem dX2_offers_4 : decode cX2_offers 4 = .ok (.iload_n 2, 1) := by decide +kernel
theorem dX2_offers_5 : decode cX2_offers 5 = .ok (.aload_n 0, 1) := by decide +kernel
theorem dX2_offers_6 : decode cX2_offers 6 = .ok (.getfield 12, 3) := by decide +kernel
theorem dX2_offers_9 : decode cX2_offers 9 = .ok (.getfield 66, 3) := by decide +kernel
theorem dX2_offers_12 : decode cX2_offers 12 = .ok (.if_icmp .ge 26, 3) := by decide +kernel
theorem dX2_offers_15 : decode cX2_offers 15 = .ok (.iload_n 1, 1) := by decide +kernel
theorem dX2_offers_16 : decode cX2_offers 16 = .ok (.aload_n 0, 1) := by decide +kernel
theorem dX2_offers_17 : decode cX2_offers 17 = .ok (.getfield 39, 3) := by decide +kernel
theorem dX2_offers_20 : decode cX2_offers 20 = .ok (.iload_n 2, 1) := by decide +kernel
theorem dX2_offers_21 : decode cX2_offers 21 = .ok (.iaload, 1) := by decide +kernel
theorem dX2_offers_22 : decode cX2_offers 22 = .ok (.ifCond .le 7, 3) := by decide +kernel
theorem dX2_offers_25 : decode cX2_offers 25 = .ok (.iconst 1, 1) := by decide +kernel
theorem dX2_offers_26 : decode cX2_offers 26 = .ok (.goto 4, 3) := by decide +kernel
theorem dX2_offers_29 : decode cX2_offers 29 = .ok (.iconst 0, 1) := by decide +kernel
theorem dX2_offers_30 : decode cX2_offers 30 = .ok (.iadd, 1) := by decide +kernel
theorem dX2_offers_31 : decode cX2_offers 31 = .ok (.istore_n 1, 1) := by decide +kernel
theorem dX2_offers_32 : decode cX2_offers 32 = .ok (.iinc 2 1, 3) := by decide +kernel
theorem dX2_offers_35 : decode cX2_offers 35 = .ok (.goto (-31), 3) := by decide +kernel
theorem dX2_offers_38 : decode cX2_offers 38 = .ok (.iload_n 1, 1) := by decide +kernel
theorem dX2_offers_39 : decode cX2_offers 39 = .ok (.ireturn, 1) := by decide +kernel
theorem okX2_offers : CalOK yX2_offers cX2_offers 3 (some .int) 0 := ⟨wd_17, wd_428, by decide +kernel⟩
theorem ovX2_offers : VirOK yX2_offers := ⟨wd_427, wd_5⟩
def FX2_offers_30 (B : Blk) (k4 : Int32 → Int32 → Option Int32) (l2 : Int32) (s0 : Int32) (s1 : Int32) : Option Int32 :=
  lt1 (s1 + s0) fun x6 =>
  lt1 (l2 + (1 : Int32)) fun x8 =>
  k4 x6 x8
set_option maxRecDepth 100000 in
set_option maxHeartbeats 4000000 in
theorem wX2_offers_30 {E : WE} {V : VT} {A : Nat → Prop} {H0 : Heap} {M : Mem} {j : Nat} (hj : j < 11) (Cx : CX E RX2 cX2_offers 3 0 0) {r : Int32} {B : Blk} (hret : RetI E V A H0 cX2_offers .int r (jb M j B)) {k4 : Int32 → Int32 → Option Int32} (hk4 : ∀ {H : Heap} {locs : List Loc} {ls : Array Slot} {l1 : Int32} {l2 : Int32}, Wd V A H0 (jb M j B) (eS E) H locs → lv_has ls 3 [(0, .ref (vA V j 0)), (1, .int l1), (2, .int l2)] → k4 l1 l2 = some r → Wq E H locs 4 ls []) {H : Heap} {locs : List Loc} {ls : Array Slot} {l2 : Int32} {s0 : Int32} {s1 : Int32} (hW : Wd V A H0 (jb M j B) (eS E) H locs) (hl : lv_has ls 3 [(0, .ref (vA V j 0)), (2, .int l2)]) (hF : FX2_offers_30 B k4 l2 s0 s1 = some r) : Wq E H locs 30 ls [.int s0, .int s1] := by
  unfold FX2_offers_30 at hF
  refine q_iadd Cx dX2_offers_30 ?_
  obtain ⟨x6, e7, hF⟩ := lt1_some hF
  refine q_topi e7 ?_
  refine q_istore_n (lv' := [(1, .int x6), (0, .ref (vA V j 0)), (2, .int l2)]) Cx dX2_offers_31 rfl hl (by decide) rfl (fun ls hl => ?_)
  obtain ⟨x8, e9, hF⟩ := lt1_some hF
  refine q_iinc (k := 2) (v := x8) (lv' := [(2, .int x8), (1, .int x6), (0, .ref (vA V j 0))]) Cx dX2_offers_32 hl rfl e9.symm (by decide) rfl (fun ls hl => ?_)
  refine q_goto (tgt := 4) Cx dX2_offers_35 (by decide) ?_
  exact hk4 hW (lv_sub hl [2, 1, 0] rfl) hF
def FX2_offers_4s (B : Blk) (k4 : Int32 → Int32 → Option Int32) (l1 : Int32) (l2 : Int32) : Option Int32 :=
  if ((B 1) 0) ≤ l2 then
    some l1
  else
    ld (B 18) 24 l2 fun v2 =>
    if v2 ≤ 0 then
      FX2_offers_30 B k4 l2 (0 : Int32) l1
    else
      FX2_offers_30 B k4 l2 (1 : Int32) l1
set_option maxRecDepth 100000 in
set_option maxHeartbeats 4000000 in
theorem wX2_offers_4s {E : WE} {V : VT} {A : Nat → Prop} {H0 : Heap} {M : Mem} {j : Nat} (hj : j < 11) (Cx : CX E RX2 cX2_offers 3 0 0) {r : Int32} {B : Blk} (hret : RetI E V A H0 cX2_offers .int r (jb M j B)) {k4 : Int32 → Int32 → Option Int32} (hk4 : ∀ {H : Heap} {locs : List Loc} {ls : Array Slot} {l1 : Int32} {l2 : Int32}, Wd V A H0 (jb M j B) (eS E) H locs → lv_has ls 3 [(0, .ref (vA V j 0)), (1, .int l1), (2, .int l2)] → k4 l1 l2 = some r → Wq E H locs 4 ls []) {H : Heap} {locs : List Loc} {ls : Array Slot} {l1 : Int32} {l2 : Int32} (hW : Wd V A H0 (jb M j B) (eS E) H locs) (hl : lv_has ls 3 [(0, .ref (vA V j 0)), (1, .int l1), (2, .int l2)]) (hF : FX2_offers_4s B k4 l1 l2 = some r) : Wq E H locs 4 ls [] := by
  unfold FX2_offers_4s at hF
  refine q_iload_n Cx dX2_offers_4 rfl (lv_at hl 2 rfl) ?_
  refine q_aload_n Cx dX2_offers_5 rfl (lv_at hl 0 rfl) ?_
  refine q_get (v := .ref (vA V j 1)) Cx hW (oM hj) ic2 0 (by decide) rfl wd_113 dX2_offers_6 ?_
  refine qb_get (v := .int ((B 1) 0)) Cx hW (oP hj) ic4 0 (by decide) rfl wd_45 dX2_offers_9 ?_
  refine q_icmp_ge (tgt := 38) Cx dX2_offers_12 (by decide) (fun c1 => ?_) (fun c1 => ?_)
  · have hF := (if_pos c1).symm.trans hF
    refine q_iload_n Cx dX2_offers_38 rfl (lv_at hl 1 rfl) ?_
    obtain rfl := Option.some.inj hF
    exact hret _ _ _ _ dX2_offers_39 (nI32 _) hW
  · have hF := (if_neg c1).symm.trans hF
    refine q_iload_n Cx dX2_offers_15 rfl (lv_at hl 1 rfl) ?_
    refine q_aload_n Cx dX2_offers_16 rfl (lv_at hl 0 rfl) ?_
    refine q_get (v := .ref (vA V j 18)) Cx hW (oM hj) ic2 6 (by decide) rfl wd_123 dX2_offers_17 ?_
    refine q_iload_n Cx dX2_offers_20 rfl (lv_at hl 2 rfl) ?_
    obtain ⟨h3, v2, e4, hF⟩ := ld_some hF
    refine qb_iald Cx hW (ai_18 hj) h3 e4 dX2_offers_21 ?_
    refine q_if_le (tgt := 29) Cx dX2_offers_22 (by decide) (fun c5 => ?_) (fun c5 => ?_)
    · have hF := (if_pos c5).symm.trans hF
      refine q_iconst (v := (0 : Int32)) Cx dX2_offers_29 (by decide) ?_
      exact wX2_offers_30 hj Cx hret hk4 hW (lv_sub hl [0, 2] rfl) hF
    · have hF := (if_neg c5).symm.trans hF
      refine q_iconst (v := (1 : Int32)) Cx dX2_offers_25 (by decide) ?_
      refine q_goto (tgt := 30) Cx dX2_offers_26 (by decide) ?_
      exact wX2_offers_30 hj Cx hret hk4 hW (lv_sub hl [0, 2] rfl) hF
def FX2_offers_4 (B : Blk) : Nat → Int32 → Int32 → Option Int32
  | 0 => fun _ _ => none
  | n + 1 => FX2_offers_4s B (FX2_offers_4 B n)
set_option maxRecDepth 100000 in
theorem wX2_offers_4 {E : WE} {V : VT} {A : Nat → Prop} {H0 : Heap} {M : Mem} {j : Nat} (hj : j < 11) (Cx : CX E RX2 cX2_offers 3 0 0) {r : Int32} {B : Blk} (hret : RetI E V A H0 cX2_offers .int r (jb M j B)) : ∀ (n : Nat) {H : Heap} {locs : List Loc} {ls : Array Slot} {l1 : Int32} {l2 : Int32}, Wd V A H0 (jb M j B) (eS E) H locs → lv_has ls 3 [(0, .ref (vA V j 0)), (1, .int l1), (2, .int l2)] → FX2_offers_4 B n l1 l2 = some r → Wq E H locs 4 ls [] := by
  intro n
  induction n with
  | zero => intro _ _ _ _ _ hW hl hF; cases hF
  | succ n ih => intro _ _ _ _ _ hW hl hF; exact wX2_offers_4s hj Cx hret ih hW hl hF
def FX2_offers (B : Blk) : Option Int32 :=
  FX2_offers_4 B fu (0 : Int32) (0 : Int32)
set_option maxRecDepth 100000 in
set_option maxHeartbeats 4000000 in
theorem wX2_offers {E : WE} {V : VT} {A : Nat → Prop} {H0 : Heap} {M : Mem} {j : Nat} (hj : j < 11) (Cx : CX E RX2 cX2_offers 3 0 0) {r : Int32} {B : Blk} (hret : RetI E V A H0 cX2_offers .int r (jb M j B)) {H : Heap} {locs : List Loc} {ls : Array Slot} (hW : Wd V A H0 (jb M j B) (eS E) H locs) (hl : lv_has ls 3 [(0, .ref (vA V j 0))]) (hF : FX2_offers B = some r) : Wq E H locs 0 ls [] := by
  unfold FX2_offers at hF
  refine q_iconst (v := (0 : Int32)) Cx dX2_offers_0 (by decide) ?_
  refine q_istore_n (lv' := [(1, .int (0 : Int32)), (0, .ref (vA V j 0))]) Cx dX2_offers_1 rfl hl (by decide) rfl (fun ls hl => ?_)
  refine q_iconst (v := (0 : Int32)) Cx dX2_offers_2 (by decide) ?_
  refine q_istore_n (lv' := [(2, .int (0 : Int32)), (1, .int (0 : Int32)), (0, .ref (vA V j 0))]) Cx dX2_offers_3 rfl hl (by decide) rfl (fun ls hl => ?_)
  exact wX2_offers_4 hj Cx hret fu hW (lv_sub hl [2, 1, 0] rfl) hF
set_option maxRecDepth 100000 in
theorem kX2_offers {l : Launch} {V : VT} {M : Mem} {j : Nat} (hj : j < 11) {B : Blk} {r : Int32} (hF : FX2_offers B = some r) : MetI l V yX2_offers cX2_offers 3 .int ({ frames := 0, cells := 0, slots := 0, locals := 0 } : Room) [.ref (vA V j 0)] r (jb M j B) (jb M j B) := metI_of (by decide) (Nat.le_of_ble_eq_true rfl) (fun E H0 _ Cx hret H locs ls hW hl => wX2_offers hj Cx hret hW hl hF)
theorem dX2_lateTasks_0 : decode cX2_lateTasks 0 = .ok (.iconst 0, 1) := by decide +kernel
theorem dX2_lateTasks_1 : decode cX2_lateTasks 1 = .ok (.istore_n 1, 1) := by decide +kernel
theorem dX2_lateTasks_2 : decode cX2_lateTasks 2 = .ok (.iconst 0, 1) := by decide +kernel
theorem dX2_lateTasks_3 : decode cX2_lateTasks 3 = .ok (.istore_n 2, 1) := by decide +kernel
theorem dX2_lateTasks_4 : decode cX2_lateTasks 4 = .ok (.iload_n 2, 1) := by decide +kernel
theorem dX2_lateTasks_5 : decode cX2_lateTasks 5 = .ok (.aload_n 0, 1) := by decide +kernel
theorem dX2_lateTasks_6 : decode cX2_lateTasks 6 = .ok (.getfield 12, 3) := by decide +kernel
theorem dX2_lateTasks_9 : decode cX2_lateTasks 9 = .ok (.getfield 66, 3) := by decide +kernel
theorem dX2_lateTasks_12 : decode cX2_lateTasks 12 = .ok (.if_icmp .ge 27, 3) := by decide +kernel
theorem dX2_lateTasks_15 : decode cX2_lateTasks 15 = .ok (.iload_n 1, 1) := by decide +kernel
theorem dX2_lateTasks_16 : decode cX2_lateTasks 16 = .ok (.aload_n 0, 1) := by decide +kernel
theorem dX2_lateTasks_17 : decode cX2_lateTasks 17 = .ok (.iload_n 2, 1) := by decide +kernel
theorem dX2_lateTasks_18 : decode cX2_lateTasks 18 = .ok (.invokevirtual 125, 3) := by decide +kernel
theorem dX2_lateTasks_21 : decode cX2_lateTasks 21 = .ok (.ifCond .le 9, 3) := by decide +kernel
theorem dX2_lateTasks_24 : decode cX2_lateTasks 24 = .ok (.iconst 1, 1) := by decide +kernel
theorem dX2_lateTasks_25 : decode cX2_lateTasks 25 = .ok (.iload_n 2, 1) := by decide +kernel
theorem dX2_lateTasks_26 : decode cX2_lateTasks 26 = .ok (.ishl, 1) := by decide +kernel
theorem dX2_lateTasks_27 : decode cX2_lateTasks 27 = .ok (.goto 4, 3) := by decide +kernel
theorem dX2_lateTasks_30 : decode cX2_lateTasks 30 = .ok (.iconst 0, 1) := by decide +kernel
theorem dX2_lateTasks_31 : decode cX2_lateTasks 31 = .ok (.ior, 1) := by decide +kernel
theorem dX2_lateTasks_32 : decode cX2_lateTasks 32 = .ok (.istore_n 1, 1) := by decide +kernel
theorem dX2_lateTasks_33 : decode cX2_lateTasks 33 = .ok (.iinc 2 1, 3) := by decide +kernel
theorem dX2_lateTasks_36 : decode cX2_lateTasks 36 = .ok (.goto (-32), 3) := by decide +kernel
theorem dX2_lateTasks_39 : decode cX2_lateTasks 39 = .ok (.iload_n 1, 1) := by decide +kernel
theorem dX2_lateTasks_40 : decode cX2_lateTasks 40 = .ok (.ireturn, 1) := by decide +kernel
theorem okX2_lateTasks : CalOK yX2_lateTasks cX2_lateTasks 3 (some .int) 0 := ⟨wd_17, wd_432, by decide +kernel⟩
theorem ovX2_lateTasks : VirOK yX2_lateTasks := ⟨wd_431, wd_6⟩
def FX2_lateTasks_31 (B : Blk) (k4 : Int32 → Int32 → Option Int32) (l2 : Int32) (s0 : Int32) (s1 : Int32) : Option Int32 :=
  lt1 (s1 ||| s0) fun x5 =>
  lt1 (l2 + (1 : Int32)) fun x7 =>
  k4 x5 x7
set_option maxRecDepth 100000 in
set_option maxHeartbeats 4000000 in
theorem wX2_lateTasks_31 {E : WE} {V : VT} {A : Nat → Prop} {H0 : Heap} {M : Mem} {j : Nat} (hj : j < 11) (Cx : CX E RX2 cX2_lateTasks 3 2 61) {r : Int32} {B : Blk} (hret : RetI E V A H0 cX2_lateTasks .int r (jb M j B)) {k4 : Int32 → Int32 → Option Int32} (hk4 : ∀ {H : Heap} {locs : List Loc} {ls : Array Slot} {l1 : Int32} {l2 : Int32}, Wd V A H0 (jb M j B) (eS E) H locs → lv_has ls 3 [(0, .ref (vA V j 0)), (1, .int l1), (2, .int l2)] → k4 l1 l2 = some r → Wq E H locs 4 ls []) {H : Heap} {locs : List Loc} {ls : Array Slot} {l2 : Int32} {s0 : Int32} {s1 : Int32} (hW : Wd V A H0 (jb M j B) (eS E) H locs) (hl : lv_has ls 3 [(0, .ref (vA V j 0)), (2, .int l2)]) (hF : FX2_lateTasks_31 B k4 l2 s0 s1 = some r) : Wq E H locs 31 ls [.int s0, .int s1] := by
  unfold FX2_lateTasks_31 at hF
  refine q_ior Cx dX2_lateTasks_31 ?_
  obtain ⟨x5, e6, hF⟩ := lt1_some hF
  refine q_topi e6 ?_
  refine q_istore_n (lv' := [(1, .int x5), (0, .ref (vA V j 0)), (2, .int l2)]) Cx dX2_lateTasks_32 rfl hl (by decide) rfl (fun ls hl => ?_)
  obtain ⟨x7, e8, hF⟩ := lt1_some hF
  refine q_iinc (k := 2) (v := x7) (lv' := [(2, .int x7), (1, .int x5), (0, .ref (vA V j 0))]) Cx dX2_lateTasks_33 hl rfl e8.symm (by decide) rfl (fun ls hl => ?_)
  refine q_goto (tgt := 4) Cx dX2_lateTasks_36 (by decide) ?_
  exact hk4 hW (lv_sub hl [2, 1, 0] rfl) hF
def FX2_lateTasks_4s (B : Blk) (k4 : Int32 → Int32 → Option Int32) (l1 : Int32) (l2 : Int32) : Option Int32 :=
  if ((B 1) 0) ≤ l2 then
    some l1
  else
    c1 (FX2_lateOf B l2) fun r2 =>
    if r2 ≤ 0 then
      FX2_lateTasks_31 B k4 l2 (0 : Int32) l1
    else
      FX2_lateTasks_31 B k4 l2 ((1 : Int32) <<< (l2 &&& 31)) l1
set_option maxRecDepth 100000 in
set_option maxHeartbeats 4000000 in
theorem wX2_lateTasks_4s {E : WE} {V : VT} {A : Nat → Prop} {H0 : Heap} {M : Mem} {j : Nat} (hj : j < 11) (Cx : CX E RX2 cX2_lateTasks 3 2 61) {r : Int32} {B : Blk} (hret : RetI E V A H0 cX2_lateTasks .int r (jb M j B)) {k4 : Int32 → Int32 → Option Int32} (hk4 : ∀ {H : Heap} {locs : List Loc} {ls : Array Slot} {l1 : Int32} {l2 : Int32}, Wd V A H0 (jb M j B) (eS E) H locs → lv_has ls 3 [(0, .ref (vA V j 0)), (1, .int l1), (2, .int l2)] → k4 l1 l2 = some r → Wq E H locs 4 ls []) {H : Heap} {locs : List Loc} {ls : Array Slot} {l1 : Int32} {l2 : Int32} (hW : Wd V A H0 (jb M j B) (eS E) H locs) (hl : lv_has ls 3 [(0, .ref (vA V j 0)), (1, .int l1), (2, .int l2)]) (hF : FX2_lateTasks_4s B k4 l1 l2 = some r) : Wq E H locs 4 ls [] := by
  unfold FX2_lateTasks_4s at hF
  refine q_iload_n Cx dX2_lateTasks_4 rfl (lv_at hl 2 rfl) ?_
  refine q_aload_n Cx dX2_lateTasks_5 rfl (lv_at hl 0 rfl) ?_
  refine q_get (v := .ref (vA V j 1)) Cx hW (oM hj) ic2 0 (by decide) rfl wd_113 dX2_lateTasks_6 ?_
  refine qb_get (v := .int ((B 1) 0)) Cx hW (oP hj) ic4 0 (by decide) rfl wd_45 dX2_lateTasks_9 ?_
  refine q_icmp_ge (tgt := 39) Cx dX2_lateTasks_12 (by decide) (fun c1 => ?_) (fun c1 => ?_)
  · have hF := (if_pos c1).symm.trans hF
    refine q_iload_n Cx dX2_lateTasks_39 rfl (lv_at hl 1 rfl) ?_
    obtain rfl := Option.some.inj hF
    exact hret _ _ _ _ dX2_lateTasks_40 (nI32 _) hW
  · have hF := (if_neg c1).symm.trans hF
    refine q_iload_n Cx dX2_lateTasks_15 rfl (lv_at hl 1 rfl) ?_
    refine q_aload_n Cx dX2_lateTasks_16 rfl (lv_at hl 0 rfl) ?_
    refine q_iload_n Cx dX2_lateTasks_17 rfl (lv_at hl 2 rfl) ?_
    obtain ⟨r2, e3, hF⟩ := c1_some hF
    refine q_callI (as := [.int l2]) (rest := [.int l1]) Cx (kX2_lateOf hj e3) okX2_lateOf ovX2_lateOf wd_290 ⟨rfl, rfl, by decide, by decide⟩ hW (oM hj) ic2 rfl hl.1 (Nat.le_of_ble_eq_true rfl) rfl dX2_lateTasks_18 (fun H locs hW => ?_)
    refine q_if_le (tgt := 30) Cx dX2_lateTasks_21 (by decide) (fun c4 => ?_) (fun c4 => ?_)
    · have hF := (if_pos c4).symm.trans hF
      refine q_iconst (v := (0 : Int32)) Cx dX2_lateTasks_30 (by decide) ?_
      exact wX2_lateTasks_31 hj Cx hret hk4 hW (lv_sub hl [0, 2] rfl) hF
    · have hF := (if_neg c4).symm.trans hF
      refine q_iconst (v := (1 : Int32)) Cx dX2_lateTasks_24 (by decide) ?_
      refine q_iload_n Cx dX2_lateTasks_25 rfl (lv_at hl 2 rfl) ?_
      refine q_ishl Cx dX2_lateTasks_26 ?_
      refine q_goto (tgt := 31) Cx dX2_lateTasks_27 (by decide) ?_
      exact wX2_lateTasks_31 hj Cx hret hk4 hW (lv_sub hl [0, 2] rfl) hF
def FX2_lateTasks_4 (B : Blk) : Nat → Int32 → Int32 → Option Int32
  | 0 => fun _ _ => none
  | n + 1 => FX2_lateTasks_4s B (FX2_lateTasks_4 B n)
set_option maxRecDepth 100000 in
theorem wX2_lateTasks_4 {E : WE} {V : VT} {A : Nat → Prop} {H0 : Heap} {M : Mem} {j : Nat} (hj : j < 11) (Cx : CX E RX2 cX2_lateTasks 3 2 61) {r : Int32} {B : Blk} (hret : RetI E V A H0 cX2_lateTasks .int r (jb M j B)) : ∀ (n : Nat) {H : Heap} {locs : List Loc} {ls : Array Slot} {l1 : Int32} {l2 : Int32}, Wd V A H0 (jb M j B) (eS E) H locs → lv_has ls 3 [(0, .ref (vA V j 0)), (1, .int l1), (2, .int l2)] → FX2_lateTasks_4 B n l1 l2 = some r → Wq E H locs 4 ls [] := by
  intro n
  induction n with
  | zero => intro _ _ _ _ _ hW hl hF; cases hF
  | succ n ih => intro _ _ _ _ _ hW hl hF; exact wX2_lateTasks_4s hj Cx hret ih hW hl hF
def FX2_lateTasks (B : Blk) : Option Int32 :=
  FX2_lateTasks_4 B fu (0 : Int32) (0 : Int32)
set_option maxRecDepth 100000 in
set_option maxHeartbeats 4000000 in
theorem wX2_lateTasks {E : WE} {V : VT} {A : Nat → Prop} {H0 : Heap} {M : Mem} {j : Nat} (hj : j < 11) (Cx : CX E RX2 cX2_lateTasks 3 2 61) {r : Int32} {B : Blk} (hret : RetI E V A H0 cX2_lateTasks .int r (jb M j B)) {H : Heap} {locs : List Loc} {ls : Array Slot} (hW : Wd V A H0 (jb M j B) (eS E) H locs) (hl : lv_has ls 3 [(0, .ref (vA V j 0))]) (hF : FX2_lateTasks B = some r) : Wq E H locs 0 ls [] := by
  unfold FX2_lateTasks at hF
  refine q_iconst (v := (0 : Int32)) Cx dX2_lateTasks_0 (by decide) ?_
  refine q_istore_n (lv' := [(1, .int (0 : Int32)), (0, .ref (vA V j 0))]) Cx dX2_lateTasks_1 rfl hl (by decide) rfl (fun ls hl => ?_)
  refine q_iconst (v := (0 : Int32)) Cx dX2_lateTasks_2 (by decide) ?_
  refine q_istore_n (lv' := [(2, .int (0 : Int32)), (1, .int (0 : Int32)), (0, .ref (vA V j 0))]) Cx dX2_lateTasks_3 rfl hl (by decide) rfl (fun ls hl => ?_)
  exact wX2_lateTasks_4 hj Cx hret fu hW (lv_sub hl [2, 1, 0] rfl) hF
set_option maxRecDepth 100000 in
theorem kX2_lateTasks {l : Launch} {V : VT} {M : Mem} {j : Nat} (hj : j < 11) {B : Blk} {r : Int32} (hF : FX2_lateTasks B = some r) : MetI l V yX2_lateTasks cX2_lateTasks 3 .int ({ frames := 2, cells := 0, slots := 0, locals := 61 } : Room) [.ref (vA V j 0)] r (jb M j B) (jb M j B) := metI_of (by decide) (Nat.le_of_ble_eq_true rfl) (fun E H0 _ Cx hret H locs ls hW hl => wX2_lateTasks hj Cx hret hW hl hF)
theorem dX2_allMoney_0 : decode cX2_allMoney 0 = .ok (.iconst 0, 1) := by decide +kernel
theorem dX2_allMoney_1 : decode cX2_allMoney 1 = .ok (.istore_n 1, 1) := by decide +kernel
theorem dX2_allMoney_2 : decode cX2_allMoney 2 = .ok (.iconst 0, 1) := by decide +kernel
theorem dX2_allMoney_3 : decode cX2_allMoney 3 = .ok (.istore_n 2, 1) := by decide +kernel
theorem dX2_allMoney_4 : decode cX2_allMoney 4 = .ok (.iload_n 2, 1) := by decide +kernel
theorem dX2_allMoney_5 : decode cX2_allMoney 5 = .ok (.aload_n 0, 1) := by decide +kernel
theorem dX2_allMoney_6 : decode cX2_allMoney 6 = .ok (.getfield 12, 3) := by decide +kernel
theorem dX2_allMoney_9 : decode cX2_allMoney 9 = .ok (.getfield 66, 3) := by decide +kernel
theorem dX2_allMoney_12 : decode cX2_allMoney 12 = .ok (.if_icmp .ge 18, 3) := by decide +kernel
theorem dX2_allMoney_15 : decode cX2_allMoney 15 = .ok (.iload_n 1, 1) := by decide +kernel
theorem dX2_allMoney_16 : decode cX2_allMoney 16 = .ok (.aload_n 0, 1) := by decide +kernel
theorem dX2_allMoney_17 : decode cX2_allMoney 17 = .ok (.getfield 36, 3) := by decide +kernel
theorem dX2_allMoney_20 : decode cX2_allMoney 20 = .ok (.iload_n 2, 1) := by decide +kernel
theorem dX2_allMoney_21 : decode cX2_allMoney 21 = .ok (.iaload, 1) := by decide +kernel
theorem dX2_allMoney_22 : decode cX2_allMoney 22 = .ok (.iadd, 1) := by decide +kernel
theorem dX2_allMoney_23 : decode cX2_allMoney 23 = .ok (.istore_n 1, 1) := by decide +kernel
theorem dX2_allMoney_24 : decode cX2_allMoney 24 = .ok (.iinc 2 1, 3) := by decide +kernel
theorem dX2_allMoney_27 : decode cX2_allMoney 27 = .ok (.goto (-23), 3) := by decide +kernel
theorem dX2_allMoney_30 : decode cX2_allMoney 30 = .ok (.iload_n 1, 1) := by decide +kernel
theorem dX2_allMoney_31 : decode cX2_allMoney 31 = .ok (.ireturn, 1) := by decide +kernel
theorem okX2_allMoney : CalOK yX2_allMoney cX2_allMoney 3 (some .int) 0 := ⟨wd_17, wd_437, by decide +kernel⟩
theorem ovX2_allMoney : VirOK yX2_allMoney := ⟨wd_436, wd_7⟩
def FX2_allMoney_4s (B : Blk) (k4 : Int32 → Int32 → Option Int32) (l1 : Int32) (l2 : Int32) : Option Int32 :=
  if ((B 1) 0) ≤ l2 then
    some l1
  else
    ld (B 17) 24 l2 fun v2 =>
    lt1 (l1 + v2) fun x5 =>
    lt1 (l2 + (1 : Int32)) fun x7 =>
    k4 x5 x7
set_option maxRecDepth 100000 in
set_option maxHeartbeats 4000000 in
theorem wX2_allMoney_4s {E : WE} {V : VT} {A : Nat → Prop} {H0 : Heap} {M : Mem} {j : Nat} (hj : j < 11) (Cx : CX E RX2 cX2_allMoney 3 0 0) {r : Int32} {B : Blk} (hret : RetI E V A H0 cX2_allMoney .int r (jb M j B)) {k4 : Int32 → Int32 → Option Int32} (hk4 : ∀ {H : Heap} {locs : List Loc} {ls : Array Slot} {l1 : Int32} {l2 : Int32}, Wd V A H0 (jb M j B) (eS E) H locs → lv_has ls 3 [(0, .ref (vA V j 0)), (1, .int l1), (2, .int l2)] → k4 l1 l2 = some r → Wq E H locs 4 ls []) {H : Heap} {locs : List Loc} {ls : Array Slot} {l1 : Int32} {l2 : Int32} (hW : Wd V A H0 (jb M j B) (eS E) H locs) (hl : lv_has ls 3 [(0, .ref (vA V j 0)), (1, .int l1), (2, .int l2)]) (hF : FX2_allMoney_4s B k4 l1 l2 = some r) : Wq E H locs 4 ls [] := by
  unfold FX2_allMoney_4s at hF
  refine q_iload_n Cx dX2_allMoney_4 rfl (lv_at hl 2 rfl) ?_
  refine q_aload_n Cx dX2_allMoney_5 rfl (lv_at hl 0 rfl) ?_
  refine q_get (v := .ref (vA V j 1)) Cx hW (oM hj) ic2 0 (by decide) rfl wd_113 dX2_allMoney_6 ?_
  refine qb_get (v := .int ((B 1) 0)) Cx hW (oP hj) ic4 0 (by decide) rfl wd_45 dX2_allMoney_9 ?_
  refine q_icmp_ge (tgt := 30) Cx dX2_allMoney_12 (by decide) (fun c1 => ?_) (fun c1 => ?_)
  · have hF := (if_pos c1).symm.trans hF
    refine q_iload_n Cx dX2_allMoney_30 rfl (lv_at hl 1 rfl) ?_
    obtain rfl := Option.some.inj hF
    exact hret _ _ _ _ dX2_allMoney_31 (nI32 _) hW
  · have hF := (if_neg c1).symm.trans hF
    refine q_iload_n Cx dX2_allMoney_15 rfl (lv_at hl 1 rfl) ?_
    refine q_aload_n Cx dX2_allMoney_16 rfl (lv_at hl 0 rfl) ?_
    refine q_get (v := .ref (vA V j 17)) Cx hW (oM hj) ic2 5 (by decide) rfl wd_121 dX2_allMoney_17 ?_
    refine q_iload_n Cx dX2_allMoney_20 rfl (lv_at hl 2 rfl) ?_
    obtain ⟨h3, v2, e4, hF⟩ := ld_some hF
    refine qb_iald Cx hW (ai_17 hj) h3 e4 dX2_allMoney_21 ?_
    refine q_iadd Cx dX2_allMoney_22 ?_
    obtain ⟨x5, e6, hF⟩ := lt1_some hF
    refine q_topi e6 ?_
    refine q_istore_n (lv' := [(1, .int x5), (0, .ref (vA V j 0)), (2, .int l2)]) Cx dX2_allMoney_23 rfl hl (by decide) rfl (fun ls hl => ?_)
    obtain ⟨x7, e8, hF⟩ := lt1_some hF
    refine q_iinc (k := 2) (v := x7) (lv' := [(2, .int x7), (1, .int x5), (0, .ref (vA V j 0))]) Cx dX2_allMoney_24 hl rfl e8.symm (by decide) rfl (fun ls hl => ?_)
    refine q_goto (tgt := 4) Cx dX2_allMoney_27 (by decide) ?_
    exact hk4 hW (lv_sub hl [2, 1, 0] rfl) hF
def FX2_allMoney_4 (B : Blk) : Nat → Int32 → Int32 → Option Int32
  | 0 => fun _ _ => none
  | n + 1 => FX2_allMoney_4s B (FX2_allMoney_4 B n)
set_option maxRecDepth 100000 in
theorem wX2_allMoney_4 {E : WE} {V : VT} {A : Nat → Prop} {H0 : Heap} {M : Mem} {j : Nat} (hj : j < 11) (Cx : CX E RX2 cX2_allMoney 3 0 0) {r : Int32} {B : Blk} (hret : RetI E V A H0 cX2_allMoney .int r (jb M j B)) : ∀ (n : Nat) {H : Heap} {locs : List Loc} {ls : Array Slot} {l1 : Int32} {l2 : Int32}, Wd V A H0 (jb M j B) (eS E) H locs → lv_has ls 3 [(0, .ref (vA V j 0)), (1, .int l1), (2, .int l2)] → FX2_allMoney_4 B n l1 l2 = some r → Wq E H locs 4 ls [] := by
  intro n
  induction n with
  | zero => intro _ _ _ _ _ hW hl hF; cases hF
  | succ n ih => intro _ _ _ _ _ hW hl hF; exact wX2_allMoney_4s hj Cx hret ih hW hl hF
def FX2_allMoney (B : Blk) : Option Int32 :=
  FX2_allMoney_4 B fu (0 : Int32) (0 : Int32)
set_option maxRecDepth 100000 in
set_option maxHeartbeats 4000000 in
theorem wX2_allMoney {E : WE} {V : VT} {A : Nat → Prop} {H0 : Heap} {M : Mem} {j : Nat} (hj : j < 11) (Cx : CX E RX2 cX2_allMoney 3 0 0) {r : Int32} {B : Blk} (hret : RetI E V A H0 cX2_allMoney .int r (jb M j B)) {H : Heap} {locs : List Loc} {ls : Array Slot} (hW : Wd V A H0 (jb M j B) (eS E) H locs) (hl : lv_has ls 3 [(0, .ref (vA V j 0))]) (hF : FX2_allMoney B = some r) : Wq E H locs 0 ls [] := by
  unfold FX2_allMoney at hF
  refine q_iconst (v := (0 : Int32)) Cx dX2_allMoney_0 (by decide) ?_
  refine q_istore_n (lv' := [(1, .int (0 : Int32)), (0, .ref (vA V j 0))]) Cx dX2_allMoney_1 rfl hl (by decide) rfl (fun ls hl => ?_)
  refine q_iconst (v := (0 : Int32)) Cx dX2_allMoney_2 (by decide) ?_
  refine q_istore_n (lv' := [(2, .int (0 : Int32)), (1, .int (0 : Int32)), (0, .ref (vA V j 0))]) Cx dX2_allMoney_3 rfl hl (by decide) rfl (fun ls hl => ?_)
  exact wX2_allMoney_4 hj Cx hret fu hW (lv_sub hl [2, 1, 0] rfl) hF
set_option maxRecDepth 100000 in
theorem kX2_allMoney {l : Launch} {V : VT} {M : Mem} {j : Nat} (hj : j < 11) {B : Blk} {r : Int32} (hF : FX2_allMoney B = some r) : MetI l V yX2_allMoney cX2_allMoney 3 .int ({ frames := 0, cells := 0, slots := 0, locals := 0 } : Room) [.ref (vA V j 0)] r (jb M j B) (jb M j B) := metI_of (by decide) (Nat.le_of_ble_eq_true rfl) (fun E H0 _ Cx hret H locs ls hW hl => wX2_allMoney hj Cx hret hW hl hF)
theorem dX2_tellOfAll_0 : decode cX2_tellOfAll 0 = .ok (.iload_n 1, 1) := by decide +kernel
theorem dX2_tellOfAll_1 : decode cX2_tellOfAll 1 = .ok (.tableswitch 154 0 15 #[79, 87, 95, 100, 105, 110, 118, 123, 154, 154, 131, 136, 141, 141, 141, 141], 79) := by decide +kernel
theorem dX2_tellOfAll_80 : decode cX2_tellOfAll 80 = .ok (.aload_n 0, 1) := by decide +kernel
theorem dX2_tellOfAll_81 : decode cX2_tellOfAll 81 = .ok (.getfield 12, 3) := by decide +kernel
theorem dX2_tellOfAll_84 : decode cX2_tellOfAll 84 = .ok (.getfield 66, 3) := by decide +kernel
theorem dX2_tellOfAll_87 : decode cX2_tellOfAll 87 = .ok (.ireturn, 1) := by decide +kernel
theorem dX2_tellOfAll_88 : decode cX2_tellOfAll 88 = .ok (.aload_n 0, 1) := by decide +kernel
theorem dX2_tellOfAll_89 : decode cX2_tellOfAll 89 = .ok (.getfield 21, 3) := by decide +kernel
theorem dX2_tellOfAll_92 : decode cX2_tellOfAll 92 = .ok (.getfield 115, 3) := by decide +kernel
theorem dX2_tellOfAll_95 : decode cX2_tellOfAll 95 = .ok (.ireturn, 1) := by decide +kernel
theorem dX2_tellOfAll_96 : decode cX2_tellOfAll 96 = .ok (.aload_n 0, 1) := by decide +kernel
theorem dX2_tellOfAll_97 : decode cX2_tellOfAll 97 = .ok (.invokevirtual 195, 3) := by decide +kernel
theorem dX2_tellOfAll_100 : decode cX2_tellOfAll 100 = .ok (.ireturn, 1) := by decide +kernel
theorem dX2_tellOfAll_101 : decode cX2_tellOfAll 101 = .ok (.aload_n 0, 1) := by decide +kernel
theorem dX2_tellOfAll_102 : decode cX2_tellOfAll 102 = .ok (.invokevirtual 198, 3) := by decide +kernel
theorem dX2_tellOfAll_105 : decode cX2_tellOfAll 105 = .ok (.ireturn, 1) := by decide +kernel
theorem dX2_tellOfAll_106 : decode cX2_tellOfAll 106 = .ok (.aload_n 0, 1) := by decide +kernel
theorem dX2_tellOfAll_107 : decode cX2_tellOfAll 107 = .ok (.invokevirtual 161, 3) := by decide +kernel
theorem dX2_tellOfAll_110 : decode cX2_tellOfAll 110 = .ok (.ireturn, 1) := by decide +kernel
theorem dX2_tellOfAll_111 : decode cX2_tellOfAll 111 = .ok (.aload_n 0, 1) := by decide +kernel
theorem dX2_tellOfAll_112 : decode cX2_tellOfAll 112 = .ok (.getfield 12, 3) := by decide +kernel
theorem dX2_tellOfAll_115 : decode cX2_tellOfAll 115 = .ok (.invokevirtual 201, 3) := by decide +kernel
theorem dX2_tellOfAll_118 : decode cX2_tellOfAll 118 = .ok (.ireturn, 1) := by decide +kernel
theorem dX2_tellOfAll_119 : decode cX2_tellOfAll 119 = .ok (.aload_n 0, 1) := by decide +kernel
theorem dX2_tellOfAll_120 : decode cX2_tellOfAll 120 = .ok (.invokevirtual 204, 3) := by decide +kernel
theorem dX2_tellOfAll_123 : decode cX2_tellOfAll 123 = .ok (.ireturn, 1) := by decide +kernel
theorem dX2_tellOfAll_124 : decode cX2_tellOfAll 124 = .ok (.aload_n 0, 1) := by decide +kernel
theorem dX2_tellOfAll_125 : decode cX2_tellOfAll 125 = .ok (.getfield 21, 3) := by decide +kernel
theorem dX2_tellOfAll_128 : decode cX2_tellOfAll 128 = .ok (.invokevirtual 207, 3) := by decide +kernel
theorem dX2_tellOfAll_131 : decode cX2_tellOfAll 131 = .ok (.ireturn, 1) := by decide +kernel
theorem dX2_tellOfAll_132 : decode cX2_tellOfAll 132 = .ok (.aload_n 0, 1) := by decide +kernel
theorem dX2_tellOfAll_133 : decode cX2_tellOfAll 133 = .ok (.getfield 25, 3) := by decide +kernel
theorem dX2_tellOfAll_136 : decode cX2_tellOfAll 136 = .ok (.ireturn, 1) := by decide +kernel
theorem dX2_tellOfAll_137 : decode cX2_tellOfAll 137 = .ok (.aload_n 0, 1) := by decide +kernel
theorem dX2_tellOfAll_138 : decode cX2_tellOfAll 138 = .ok (.getfield 29, 3) := by decide +kernel
theorem dX2_tellOfAll_141 : decode cX2_tellOfAll 141 = .ok (.ireturn, 1) := by decide +kernel
theorem dX2_tellOfAll_142 : decode cX2_tellOfAll 142 = .ok (.aload_n 0, 1) := by decide +kernel
theorem dX2_tellOfAll_143 : decode cX2_tellOfAll 143 = .ok (.getfield 12, 3) := by decide +kernel
theorem dX2_tellOfAll_146 : decode cX2_tellOfAll 146 = .ok (.getfield 80, 3) := by decide +kernel
theorem dX2_tellOfAll_149 : decode cX2_tellOfAll 149 = .ok (.iload_n 1, 1) := by decide +kernel
theorem dX2_tellOfAll_150 : decode cX2_tellOfAll 150 = .ok (.bipush 12, 2) := by decide +kernel
theorem dX2_tellOfAll_152 : decode cX2_tellOfAll 152 = .ok (.isub, 1) := by decide +kernel
theorem dX2_tellOfAll_153 : decode cX2_tellOfAll 153 = .ok (.iaload, 1) := by decide +kernel
theorem dX2_tellOfAll_154 : decode cX2_tellOfAll 154 = .ok (.ireturn, 1) := by decide +kernel
theorem dX2_tellOfAll_155 : decode cX2_tellOfAll 155 = .ok (.bipush (-2), 2) := by decide +kernel
theorem dX2_tellOfAll_157 : decode cX2_tellOfAll 157 = .ok (.ireturn, 1) := by decide +kernel
theorem okX2_tellOfAll : CalOK yX2_tellOfAll cX2_tellOfAll 2 (some .int) 1 := ⟨wd_17, wd_424, by decide +kernel⟩
theorem ovX2_tellOfAll : VirOK yX2_tellOfAll := ⟨wd_422, wd_423⟩
def FX2_tellOfAll (B : Blk) (l1 : Int32) : Option Int32 :=
  if l1 = (0 : Int32) then
    some ((B 1) 0)
  else
    if l1 = (1 : Int32) then
      some ((B 2) 0)
    else
      if l1 = (2 : Int32) then
        c1 (FX2_offers B) fun r4 =>
        some r4
      else
        if l1 = (3 : Int32) then
          c1 (FX2_lateTasks B) fun r7 =>
          some r7
        else
          if l1 = (4 : Int32) then
            c1 (FX2_lateTogether B) fun r10 =>
            some r10
          else
            if l1 = (5 : Int32) then
              c1 (FX4_endOfAll B) fun r13 =>
              some r13
            else
              if l1 = (6 : Int32) then
                c1 (FX2_allMoney B) fun r16 =>
                some r16
              else
                if l1 = (7 : Int32) then
                  c1 (FX0_allHours B) fun r19 =>
                  some r19
                else
                  if l1 = (8 : Int32) then
                    some (-2 : Int32)
                  else
                    if l1 = (9 : Int32) then
                      some (-2 : Int32)
                    else
                      if l1 = (10 : Int32) then
                        some ((B 0) 2)
                      else
                        if l1 = (11 : Int32) then
                          some ((B 0) 3)
                        else
                          if l1 = (12 : Int32) then
                            ld (B 9) 4 (l1 - (12 : Int32)) fun v26 =>
                            some v26
                          else
                            if l1 = (13 : Int32) then
                              ld (B 9) 4 (l1 - (12 : Int32)) fun v30 =>
                              some v30
                            else
                              if l1 = (14 : Int32) then
                                ld (B 9) 4 (l1 - (12 : Int32)) fun v34 =>
                                some v34
                              else
                                if l1 = (15 : Int32) then
                                  ld (B 9) 4 (l1 - (12 : Int32)) fun v38 =>
                                  some v38
                                else
                                  some (-2 : Int32)
set_option maxRecDepth 100000 in
set_option maxHeartbeats 4000000 in
theorem wX2_tellOfAll {E : WE} {V : VT} {A : Nat → Prop} {H0 : Heap} {M : Mem} {j : Nat} (hj : j < 11) (Cx : CX E RX2 cX2_tellOfAll 2 3 83) {r : Int32} {B : Blk} (hret : RetI E V A H0 cX2_tellOfAll .int r (jb M j B)) {H : Heap} {locs : List Loc} {ls : Array Slot} {l1 : Int32} (hW : Wd V A H0 (jb M j B) (eS E) H locs) (hl : lv_has ls 2 [(0, .ref (vA V j 0)), (1, .int l1)]) (hF : FX2_tellOfAll B l1 = some r) : Wq E H locs 0 ls [] := by
  unfold FX2_tellOfAll at hF
  refine q_iload_n Cx dX2_tellOfAll_0 rfl (lv_at hl 1 rfl) ?_
  by_cases c1 : l1 = (0 : Int32)
  · have hF := (if_pos c1).symm.trans hF
    refine q_tableIn (tgt := 80) Cx dX2_tellOfAll_1 (by rw [c1]; decide) (by rw [c1]; decide) (ho := by rw [c1]; rfl) (by decide) ?_
    refine q_aload_n Cx dX2_tellOfAll_80 rfl (lv_at hl 0 rfl) ?_
    refine q_get (v := .ref (vA V j 1)) Cx hW (oM hj) ic2 0 (by decide) rfl wd_113 dX2_tellOfAll_81 ?_
    refine qb_get (v := .int ((B 1) 0)) Cx hW (oP hj) ic4 0 (by decide) rfl wd_45 dX2_tellOfAll_84 ?_
    obtain rfl := Option.some.inj hF
    exact hret _ _ _ _ dX2_tellOfAll_87 (nI32 _) hW
  · have hF := (if_neg c1).symm.trans hF
    by_cases c2 : l1 = (1 : Int32)
    · have hF := (if_pos c2).symm.trans hF
      refine q_tableIn (tgt := 88) Cx dX2_tellOfAll_1 (by rw [c2]; decide) (by rw [c2]; decide) (ho := by rw [c2]; rfl) (by decide) ?_
      refine q_aload_n Cx dX2_tellOfAll_88 rfl (lv_at hl 0 rfl) ?_
      refine q_get (v := .ref (vA V j 2)) Cx hW (oM hj) ic2 1 (by decide) rfl wd_115 dX2_tellOfAll_89 ?_
      refine qb_get (v := .int ((B 2) 0)) Cx hW (oC hj) ic0 0 (by decide) rfl wd_92 dX2_tellOfAll_92 ?_
      obtain rfl := Option.some.inj hF
      exact hret _ _ _ _ dX2_tellOfAll_95 (nI32 _) hW
    · have hF := (if_neg c2).symm.trans hF
      by_cases c3 : l1 = (2 : Int32)
      · have hF := (if_pos c3).symm.trans hF
        refine q_tableIn (tgt := 96) Cx dX2_tellOfAll_1 (by rw [c3]; decide) (by rw [c3]; decide) (ho := by rw [c3]; rfl) (by decide) ?_
        refine q_aload_n Cx dX2_tellOfAll_96 rfl (lv_at hl 0 rfl) ?_
        obtain ⟨r4, e5, hF⟩ := c1_some hF
        refine q_callI (as := []) (rest := []) Cx (kX2_offers hj e5) okX2_offers ovX2_offers wd_425 ⟨rfl, rfl, by decide, by decide⟩ hW (oM hj) ic2 rfl hl.1 (Nat.le_of_ble_eq_true rfl) rfl dX2_tellOfAll_97 (fun H locs hW => ?_)
        obtain rfl := Option.some.inj hF
        exact hret _ _ _ _ dX2_tellOfAll_100 (nI32 _) hW
      · have hF := (if_neg c3).symm.trans hF
        by_cases c6 : l1 = (3 : Int32)
        · have hF := (if_pos c6).symm.trans hF
          refine q_tableIn (tgt := 101) Cx dX2_tellOfAll_1 (by rw [c6]; decide) (by rw [c6]; decide) (ho := by rw [c6]; rfl) (by decide) ?_
          refine q_aload_n Cx dX2_tellOfAll_101 rfl (lv_at hl 0 rfl) ?_
          obtain ⟨r7, e8, hF⟩ := c1_some hF
          refine q_callI (as := []) (rest := []) Cx (kX2_lateTasks hj e8) okX2_lateTasks ovX2_lateTasks wd_429 ⟨rfl, rfl, by decide, by decide⟩ hW (oM hj) ic2 rfl hl.1 (Nat.le_of_ble_eq_true rfl) rfl dX2_tellOfAll_102 (fun H locs hW => ?_)
          obtain rfl := Option.some.inj hF
          exact hret _ _ _ _ dX2_tellOfAll_105 (nI32 _) hW
        · have hF := (if_neg c6).symm.trans hF
          by_cases c9 : l1 = (4 : Int32)
          · have hF := (if_pos c9).symm.trans hF
            refine q_tableIn (tgt := 106) Cx dX2_tellOfAll_1 (by rw [c9]; decide) (by rw [c9]; decide) (ho := by rw [c9]; rfl) (by decide) ?_
            refine q_aload_n Cx dX2_tellOfAll_106 rfl (lv_at hl 0 rfl) ?_
            obtain ⟨r10, e11, hF⟩ := c1_some hF
            refine q_callI (as := []) (rest := []) Cx (kX2_lateTogether hj e11) okX2_lateTogether ovX2_lateTogether wd_303 ⟨rfl, rfl, by decide, by decide⟩ hW (oM hj) ic2 rfl hl.1 (Nat.le_of_ble_eq_true rfl) rfl dX2_tellOfAll_107 (fun H locs hW => ?_)
            obtain rfl := Option.some.inj hF
            exact hret _ _ _ _ dX2_tellOfAll_110 (nI32 _) hW
          · have hF := (if_neg c9).symm.trans hF
            by_cases c12 : l1 = (5 : Int32)
            · have hF := (if_pos c12).symm.trans hF
              refine q_tableIn (tgt := 111) Cx dX2_tellOfAll_1 (by rw [c12]; decide) (by rw [c12]; decide) (ho := by rw [c12]; rfl) (by decide) ?_
              refine q_aload_n Cx dX2_tellOfAll_111 rfl (lv_at hl 0 rfl) ?_
              refine q_get (v := .ref (vA V j 1)) Cx hW (oM hj) ic2 0 (by decide) rfl wd_113 dX2_tellOfAll_112 ?_
              obtain ⟨r13, e14, hF⟩ := c1_some hF
              refine q_callI (as := []) (rest := []) Cx (kX4_endOfAll hj e14) okX4_endOfAll ovX4_endOfAll wd_433 ⟨rfl, rfl, by decide, by decide⟩ hW (oP hj) ic4 rfl hl.1 (Nat.le_of_ble_eq_true rfl) rfl dX2_tellOfAll_115 (fun H locs hW => ?_)
              obtain rfl := Option.some.inj hF
              exact hret _ _ _ _ dX2_tellOfAll_118 (nI32 _) hW
            · have hF := (if_neg c12).symm.trans hF
              by_cases c15 : l1 = (6 : Int32)
              · have hF := (if_pos c15).symm.trans hF
                refine q_tableIn (tgt := 119) Cx dX2_tellOfAll_1 (by rw [c15]; decide) (by rw [c15]; decide) (ho := by rw [c15]; rfl) (by decide) ?_
                refine q_aload_n Cx dX2_tellOfAll_119 rfl (lv_at hl 0 rfl) ?_
                obtain ⟨r16, e17, hF⟩ := c1_some hF
                refine q_callI (as := []) (rest := []) Cx (kX2_allMoney hj e17) okX2_allMoney ovX2_allMoney wd_434 ⟨rfl, rfl, by decide, by decide⟩ hW (oM hj) ic2 rfl hl.1 (Nat.le_of_ble_eq_true rfl) rfl dX2_tellOfAll_120 (fun H locs hW => ?_)
                obtain rfl := Option.some.inj hF
                exact hret _ _ _ _ dX2_tellOfAll_123 (nI32 _) hW
              · have hF := (if_neg c15).symm.trans hF
                by_cases c18 : l1 = (7 : Int32)
                · have hF := (if_pos c18).symm.trans hF
                  refine q_tableIn (tgt := 124) Cx dX2_tellOfAll_1 (by rw [c18]; decide) (by rw [c18]; decide) (ho := by rw [c18]; rfl) (by decide) ?_
                  refine q_aload_n Cx dX2_tellOfAll_124 rfl (lv_at hl 0 rfl) ?_
                  refine q_get (v := .ref (vA V j 2)) Cx hW (oM hj) ic2 1 (by decide) rfl wd_115 dX2_tellOfAll_125 ?_
                  obtain ⟨r19, e20, hF⟩ := c1_some hF
                  refine q_callI (as := []) (rest := []) Cx (kX0_allHours hj e20) okX0_allHours ovX0_allHours wd_438 ⟨rfl, rfl, by decide, by decide⟩ hW (oC hj) ic0 rfl hl.1 (Nat.le_of_ble_eq_true rfl) rfl dX2_tellOfAll_128 (fun H locs hW => ?_)
                  obtain rfl := Option.some.inj hF
                  exact hret _ _ _ _ dX2_tellOfAll_131 (nI32 _) hW
                · have hF := (if_neg c18).symm.trans hF
                  by_cases c21 : l1 = (8 : Int32)
                  · have hF := (if_pos c21).symm.trans hF
                    refine q_tableIn (tgt := 155) Cx dX2_tellOfAll_1 (by rw [c21]; decide) (by rw [c21]; decide) (ho := by rw [c21]; rfl) (by decide) ?_
                    refine q_bipush (v := (-2 : Int32)) Cx dX2_tellOfAll_155 (by decide) ?_
                    obtain rfl := Option.some.inj hF
                    exact hret _ _ _ _ dX2_tellOfAll_157 (nI32 _) hW
                  · have hF := (if_neg c21).symm.trans hF
                    by_cases c22 : l1 = (9 : Int32)
                    · have hF := (if_pos c22).symm.trans hF
                      refine q_tableIn (tgt := 155) Cx dX2_tellOfAll_1 (by rw [c22]; decide) (by rw [c22]; decide) (ho := by rw [c22]; rfl) (by decide) ?_
                      refine q_bipush (v := (-2 : Int32)) Cx dX2_tellOfAll_155 (by decide) ?_
                      obtain rfl := Option.some.inj hF
                      exact hret _ _ _ _ dX2_tellOfAll_157 (nI32 _) hW
                    · have hF := (if_neg c22).symm.trans hF
                      by_cases c23 : l1 = (10 : Int32)
                      · have hF := (if_pos c23).symm.trans hF
                        refine q_tableIn (tgt := 132) Cx dX2_tellOfAll_1 (by rw [c23]; decide) (by rw [c23]; decide) (ho := by rw [c23]; rfl) (by decide) ?_
                        refine q_aload_n Cx dX2_tellOfAll_132 rfl (lv_at hl 0 rfl) ?_
                        refine qb_get (v := .int ((B 0) 2)) Cx hW (oM hj) ic2 2 (by decide) rfl wd_117 dX2_tellOfAll_133 ?_
                        obtain rfl := Option.some.inj hF
                        exact hret _ _ _ _ dX2_tellOfAll_136 (nI32 _) hW
                      · have hF := (if_neg c23).symm.trans hF
                        by_cases c24 : l1 = (11 : Int32)
                        · have hF := (if_pos c24).symm.trans hF
                          refine q_tableIn (tgt := 137) Cx dX2_tellOfAll_1 (by rw [c24]; decide) (by rw [c24]; decide) (ho := by rw [c24]; rfl) (by decide) ?_
                          refine q_aload_n Cx dX2_tellOfAll_137 rfl (lv_at hl 0 rfl) ?_
                          refine qb_get (v := .int ((B 0) 3)) Cx hW (oM hj) ic2 3 (by decide) rfl wd_118 dX2_tellOfAll_138 ?_
                          obtain rfl := Option.some.inj hF
                          exact hret _ _ _ _ dX2_tellOfAll_141 (nI32 _) hW
                        · have hF := (if_neg c24).symm.trans hF
                          by_cases c25 : l1 = (12 : Int32)
                          · have hF := (if_pos c25).symm.trans hF
                            refine q_tableIn (tgt := 142) Cx dX2_tellOfAll_1 (by rw [c25]; decide) (by rw [c25]; decide) (ho := by rw [c25]; rfl) (by decide) ?_
                            refine q_aload_n Cx dX2_tellOfAll_142 rfl (lv_at hl 0 rfl) ?_
                            refine q_get (v := .ref (vA V j 1)) Cx hW (oM hj) ic2 0 (by decide) rfl wd_113 dX2_tellOfAll_143 ?_
                            refine q_get (v := .ref (vA V j 9)) Cx hW (oP hj) ic4 7 (by decide) rfl wd_58 dX2_tellOfAll_146 ?_
                            refine q_iload_n Cx dX2_tellOfAll_149 rfl (lv_at hl 1 rfl) ?_
                            refine q_bipush (v := (12 : Int32)) Cx dX2_tellOfAll_150 (by decide) ?_
                            refine q_isub Cx dX2_tellOfAll_152 ?_
                            obtain ⟨h27, v26, e28, hF⟩ := ld_some hF
                            refine qb_iald Cx hW (ai_9 hj) h27 e28 dX2_tellOfAll_153 ?_
                            obtain rfl := Option.some.inj hF
                            exact hret _ _ _ _ dX2_tellOfAll_154 (nI32 _) hW
                          · have hF := (if_neg c25).symm.trans hF
                            by_cases c29 : l1 = (13 : Int32)
                            · have hF := (if_pos c29).symm.trans hF
                              refine q_tableIn (tgt := 142) Cx dX2_tellOfAll_1 (by rw [c29]; decide) (by rw [c29]; decide) (ho := by rw [c29]; rfl) (by decide) ?_
                              refine q_aload_n Cx dX2_tellOfAll_142 rfl (lv_at hl 0 rfl) ?_
                              refine q_get (v := .ref (vA V j 1)) Cx hW (oM hj) ic2 0 (by decide) rfl wd_113 dX2_tellOfAll_143 ?_
                              refine q_get (v := .ref (vA V j 9)) Cx hW (oP hj) ic4 7 (by decide) rfl wd_58 dX2_tellOfAll_146 ?_
                              refine q_iload_n Cx dX2_tellOfAll_149 rfl (lv_at hl 1 rfl) ?_
                              refine q_bipush (v := (12 : Int32)) Cx dX2_tellOfAll_150 (by decide) ?_
                              refine q_isub Cx dX2_tellOfAll_152 ?_
                              obtain ⟨h31, v30, e32, hF⟩ := ld_some hF
                              refine qb_iald Cx hW (ai_9 hj) h31 e32 dX2_tellOfAll_153 ?_
                              obtain rfl := Option.some.inj hF
                              exact hret _ _ _ _ dX2_tellOfAll_154 (nI32 _) hW
                            · have hF := (if_neg c29).symm.trans hF
                              by_cases c33 : l1 = (14 : Int32)
                              · have hF := (if_pos c33).symm.trans hF
                                refine q_tableIn (tgt := 142) Cx dX2_tellOfAll_1 (by rw [c33]; decide) (by rw [c33]; decide) (ho := by rw [c33]; rfl) (by decide) ?_
                                refine q_aload_n Cx dX2_tellOfAll_142 rfl (lv_at hl 0 rfl) ?_
                                refine q_get (v := .ref (vA V j 1)) Cx hW (oM hj) ic2 0 (by decide) rfl wd_113 dX2_tellOfAll_143 ?_
                                refine q_get (v := .ref (vA V j 9)) Cx hW (oP hj) ic4 7 (by decide) rfl wd_58 dX2_tellOfAll_146 ?_
                                refine q_iload_n Cx dX2_tellOfAll_149 rfl (lv_at hl 1 rfl) ?_
                                refine q_bipush (v := (12 : Int32)) Cx dX2_tellOfAll_150 (by decide) ?_
                                refine q_isub Cx dX2_tellOfAll_152 ?_
                                obtain ⟨h35, v34, e36, hF⟩ := ld_some hF
                                refine qb_iald Cx hW (ai_9 hj) h35 e36 dX2_tellOfAll_153 ?_
                                obtain rfl := Option.some.inj hF
                                exact hret _ _ _ _ dX2_tellOfAll_154 (nI32 _) hW
                              · have hF := (if_neg c33).symm.trans hF
                                by_cases c37 : l1 = (15 : Int32)
                                · have hF := (if_pos c37).symm.trans hF
                                  refine q_tableIn (tgt := 142) Cx dX2_tellOfAll_1 (by rw [c37]; decide) (by rw [c37]; decide) (ho := by rw [c37]; rfl) (by decide) ?_
                                  refine q_aload_n Cx dX2_tellOfAll_142 rfl (lv_at hl 0 rfl) ?_
                                  refine q_get (v := .ref (vA V j 1)) Cx hW (oM hj) ic2 0 (by decide) rfl wd_113 dX2_tellOfAll_143 ?_
                                  refine q_get (v := .ref (vA V j 9)) Cx hW (oP hj) ic4 7 (by decide) rfl wd_58 dX2_tellOfAll_146 ?_
                                  refine q_iload_n Cx dX2_tellOfAll_149 rfl (lv_at hl 1 rfl) ?_
                                  refine q_bipush (v := (12 : Int32)) Cx dX2_tellOfAll_150 (by decide) ?_
                                  refine q_isub Cx dX2_tellOfAll_152 ?_
                                  obtain ⟨h39, v38, e40, hF⟩ := ld_some hF
                                  refine qb_iald Cx hW (ai_9 hj) h39 e40 dX2_tellOfAll_153 ?_
                                  obtain rfl := Option.some.inj hF
                                  exact hret _ _ _ _ dX2_tellOfAll_154 (nI32 _) hW
                                · have hF := (if_neg c37).symm.trans hF
                                  refine q_tableOut (tgt := 155) Cx dX2_tellOfAll_1 (tbl_out (tbl_cons (k := (0 : Int32)) (l1 := 1) (by decide) (by decide) c1 (tbl_cons (k := (1 : Int32)) (l1 := 2) (by decide) (by decide) c2 (tbl_cons (k := (2 : Int32)) (l1 := 3) (by decide) (by decide) c3 (tbl_cons (k := (3 : Int32)) (l1 := 4) (by decide) (by decide) c6 (tbl_cons (k := (4 : Int32)) (l1 := 5) (by decide) (by decide) c9 (tbl_cons (k := (5 : Int32)) (l1 := 6) (by decide) (by decide) c12 (tbl_cons (k := (6 : Int32)) (l1 := 7) (by decide) (by decide) c15 (tbl_cons (k := (7 : Int32)) (l1 := 8) (by decide) (by decide) c18 (tbl_cons (k := (8 : Int32)) (l1 := 9) (by decide) (by decide) c21 (tbl_cons (k := (9 : Int32)) (l1 := 10) (by decide) (by decide) c22 (tbl_cons (k := (10 : Int32)) (l1 := 11) (by decide) (by decide) c23 (tbl_cons (k := (11 : Int32)) (l1 := 12) (by decide) (by decide) c24 (tbl_cons (k := (12 : Int32)) (l1 := 13) (by decide) (by decide) c25 (tbl_cons (k := (13 : Int32)) (l1 := 14) (by decide) (by decide) c29 (tbl_cons (k := (14 : Int32)) (l1 := 15) (by decide) (by decide) c33 (tbl_cons (k := (15 : Int32)) (l1 := 16) (by decide) (by decide) c37 (tbl_nil (by decide))))))))))))))))))) (by decide) ?_
                                  refine q_bipush (v := (-2 : Int32)) Cx dX2_tellOfAll_155 (by decide) ?_
                                  obtain rfl := Option.some.inj hF
                                  exact hret _ _ _ _ dX2_tellOfAll_157 (nI32 _) hW
set_option maxRecDepth 100000 in
theorem kX2_tellOfAll {l : Launch} {V : VT} {M : Mem} {j : Nat} (hj : j < 11) {B : Blk} {l1 : Int32} {r : Int32} (hF : FX2_tellOfAll B l1 = some r) : MetI l V yX2_tellOfAll cX2_tellOfAll 2 .int ({ frames := 3, cells := 0, slots := 0, locals := 83 } : Room) [.ref (vA V j 0), .int l1] r (jb M j B) (jb M j B) := metI_of (by decide) (Nat.le_of_ble_eq_true rfl) (fun E H0 _ Cx hret H locs ls hW hl => wX2_tellOfAll hj Cx hret hW hl hF)
theorem dX2_findBestPlace_0 : decode cX2_findBestPlace 0 = .ok (.bipush (-6), 2) := by decide +kernel
theorem dX2_findBestPlace_2 : decode cX2_findBestPlace 2 = .ok (.istore_n 2, 1) := by decide +kernel
theorem dX2_findBestPlace_3 : decode cX2_findBestPlace 3 = .ok (.iconst 0, 1) := by decide +kernel
theorem dX2_findBestPlace_4 : decode cX2_findBestPlace 4 = .ok (.istore_n 3, 1) := by decide +kernel
theorem dX2_findBestPlace_5 : decode cX2_findBestPlace 5 = .ok (.iconst 0, 1) := by decide +kernel
theorem dX2_findBestPlace_6 : decode cX2_findBestPlace 6 = .ok (.istore 4, 2) := by decide +kernel
theorem dX2_findBestPlace_8 : decode cX2_findBestPlace 8 = .ok (.iload 4, 2) := by decide +kernel
theorem dX2_findBestPlace_10 : decode cX2_findBestPlace 10 = .ok (.aload_n 0, 1) := by decide +kernel
theorem dX2_findBestPlace_11 : decode cX2_findBestPlace 11 = .ok (.getfield 12, 3) := by decide +kernel
theorem dX2_findBestPlace_14 : decode cX2_findBestPlace 14 = .ok (.getfield 80, 3) := by decide +kernel
theorem dX2_findBestPlace_17 : decode cX2_findBestPlace 17 = .ok (.aload_n 0, 1) := by decide +kernel
theorem dX2_findBestPlace_18 : decode cX2_findBestPlace 18 = .ok (.getfield 12, 3) := by decide +kernel
theorem dX2_findBestPlace_21 : decode cX2_findBestPlace 21 = .ok (.getfield 83, 3) := by decide +kernel
theorem dX2_findBestPlace_24 : decode cX2_findBestPlace 24 = .ok (.iload_n 1, 1) := by decide +kernel
theorem dX2_findBestPlace_25 : decode cX2_findBestPlace 25 = .ok (.iaload, 1) := by decide +kernel
theorem dX2_findBestPlace_26 : decode cX2_findBestPlace 26 = .ok (.iaload, 1) := by decide +kernel
theorem dX2_findBestPlace_27 : decode cX2_findBestPlace 27 = .ok (.if_icmp .ge 51, 3) := by decide +kernel
theorem dX2_findBestPlace_30 : decode cX2_findBestPlace 30 = .ok (.aload_n 0, 1) := by decide +kernel
theorem dX2_findBestPlace_31 : decode cX2_findBestPlace 31 = .ok (.getfield 12, 3) := by decide +kernel
theorem dX2_findBestPlace_34 : decode cX2_findBestPlace 34 = .ok (.iload_n 1, 1) := by decide +kernel
theorem dX2_findBestPlace_35 : decode cX2_findBestPlace 35 = .ok (.iload 4, 2) := by decide +kernel
theorem dX2_findBestPlace_37 : decode cX2_findBestPlace 37 = .ok (.invokevirtual 90, 3) := by decide +kernel
theorem dX2_findBestPlace_40 : decode cX2_findBestPlace 40 = .ok (.aload_n 0, 1) := by decide +kernel
theorem dX2_findBestPlace_41 : decode cX2_findBestPlace 41 = .ok (.getfield 12, 3) := by decide +kernel
theorem dX2_findBestPlace_44 : decode cX2_findBestPlace 44 = .ok (.invokevirtual 73, 3) := by decide +kernel
theorem dX2_findBestPlace_47 : decode cX2_findBestPlace 47 = .ok (.ifCond .eq 25, 3) := by decide +kernel
theorem dX2_findBestPlace_50 : decode cX2_findBestPlace 50 = .ok (.iload_n 2, 1) := by decide +kernel
theorem dX2_findBestPlace_51 : decode cX2_findBestPlace 51 = .ok (.bipush (-6), 2) := by decide +kernel
theorem dX2_findBestPlace_53 : decode cX2_findBestPlace 53 = .ok (.if_icmp .eq 11, 3) := by decide +kernel
theorem dX2_findBestPlace_56 : decode cX2_findBestPlace 56 = .ok (.aload_n 0, 1) := by decide +kernel
theorem dX2_findBestPlace_57 : decode cX2_findBestPlace 57 = .ok (.invokevirtual 161, 3) := by decide +kernel
theorem dX2_findBestPlace_60 : decode cX2_findBestPlace 60 = .ok (.iload_n 3, 1) := by decide +kernel
theorem dX2_findBestPlace_61 : decode cX2_findBestPlace 61 = .ok (.if_icmp .ge 11, 3) := by decide +kernel
theorem dX2_findBestPlace_64 : decode cX2_findBestPlace 64 = .ok (.iload 4, 2) := by decide +kernel
theorem dX2_findBestPlace_66 : decode cX2_findBestPlace 66 = .ok (.istore_n 2, 1) := by decide +kernel
theorem dX2_findBestPlace_67 : decode cX2_findBestPlace 67 = .ok (.aload_n 0, 1) := by decide +kernel
theorem dX2_findBestPlace_68 : decode cX2_findBestPlace 68 = .ok (.invokevirtual 161, 3) := by decide +kernel
theorem dX2_findBestPlace_71 : decode cX2_findBestPlace 71 = .ok (.istore_n 3, 1) := by decide +kernel
theorem dX2_findBestPlace_72 : decode cX2_findBestPlace 72 = .ok (.iinc 4 1, 3) := by decide +kernel
theorem dX2_findBestPlace_75 : decode cX2_findBestPlace 75 = .ok (.goto (-67), 3) := by decide +kernel
theorem dX2_findBestPlace_78 : decode cX2_findBestPlace 78 = .ok (.iload_n 2, 1) := by decide +kernel
theorem dX2_findBestPlace_79 : decode cX2_findBestPlace 79 = .ok (.ireturn, 1) := by decide +kernel
theorem okX2_findBestPlace : CalOK yX2_findBestPlace cX2_findBestPlace 5 (some .int) 1 := ⟨wd_17, wd_473, by decide +kernel⟩
theorem ovX2_findBestPlace : VirOK yX2_findBestPlace := ⟨wd_471, wd_472⟩
def FX2_findBestPlace_64 (k8 : Int32 → Int32 → Int32 → Int32 → Blk → Option (Int32 × Blk)) (l1 : Int32) (l4 : Int32) (B : Blk) : Option (Int32 × Blk) :=
  c1 (FX2_lateTogether B) fun r18 =>
  lt1 (l4 + (1 : Int32)) fun x20 =>
  k8 l1 l4 r18 x20 B
set_option maxRecDepth 100000 in
set_option maxHeartbeats 4000000 in
theorem wX2_findBestPlace_64 {E : WE} {V : VT} {A : Nat → Prop} {H0 : Heap} {M : Mem} {j : Nat} (hj : j < 11) (Cx : CX E RX2 cX2_findBestPlace 5 3 88) {r : Int32} {B' : Blk} (hret : RetI E V A H0 cX2_findBestPlace .int r (jb M j B')) {k8 : Int32 → Int32 → Int32 → Int32 → Blk → Option (Int32 × Blk)} (hk8 : ∀ {H : Heap} {locs : List Loc} {ls : Array Slot} {B : Blk} {l1 : Int32} {l2 : Int32} {l3 : Int32} {l4 : Int32}, Wd V A H0 (jb M j B) (eS E) H locs → lv_has ls 5 [(0, .ref (vA V j 0)), (1, .int l1), (2, .int l2), (3, .int l3), (4, .int l4)] → k8 l1 l2 l3 l4 B = some (r, B') → Wq E H locs 8 ls []) {H : Heap} {locs : List Loc} {ls : Array Slot} {l1 : Int32} {l4 : Int32} {B : Blk} (hW : Wd V A H0 (jb M j B) (eS E) H locs) (hl : lv_has ls 5 [(0, .ref (vA V j 0)), (1, .int l1), (4, .int l4)]) (hF : FX2_findBestPlace_64 k8 l1 l4 B = some (r, B')) : Wq E H locs 64 ls [] := by
  unfold FX2_findBestPlace_64 at hF
  refine q_iload Cx dX2_findBestPlace_64 (lv_at hl 2 rfl) ?_
  refine q_istore_n (lv' := [(2, .int l4), (0, .ref (vA V j 0)), (1, .int l1), (4, .int l4)]) Cx dX2_findBestPlace_66 rfl hl (by decide) rfl (fun ls hl => ?_)
  refine q_aload_n Cx dX2_findBestPlace_67 rfl (lv_at hl 1 rfl) ?_
  obtain ⟨r18, e19, hF⟩ := c1_some hF
  refine q_callI (as := []) (rest := []) Cx (kX2_lateTogether hj e19) okX2_lateTogether ovX2_lateTogether wd_303 ⟨rfl, rfl, by decide, by decide⟩ hW (oM hj) ic2 rfl hl.1 (Nat.le_of_ble_eq_true rfl) rfl dX2_findBestPlace_68 (fun H locs hW => ?_)
  refine q_istore_n (lv' := [(3, .int r18), (2, .int l4), (0, .ref (vA V j 0)), (1, .int l1), (4, .int l4)]) Cx dX2_findBestPlace_71 rfl hl (by decide) rfl (fun ls hl => ?_)
  obtain ⟨x20, e21, hF⟩ := lt1_some hF
  refine q_iinc (k := 4) (v := x20) (lv' := [(4, .int x20), (3, .int r18), (2, .int l4), (0, .ref (vA V j 0)), (1, .int l1)]) Cx dX2_findBestPlace_72 hl rfl e21.symm (by decide) rfl (fun ls hl => ?_)
  refine q_goto (tgt := 8) Cx dX2_findBestPlace_75 (by decide) ?_
  exact hk8 hW (lv_sub hl [3, 4, 2, 1, 0] rfl) hF
def FX2_findBestPlace_8s (k8 : Int32 → Int32 → Int32 → Int32 → Blk → Option (Int32 × Blk)) (l1 : Int32) (l2 : Int32) (l3 : Int32) (l4 : Int32) (B : Blk) : Option (Int32 × Blk) :=
  ld (B 3) 24 l1 fun v1 =>
  ld (B 9) 4 v1 fun v4 =>
  if v4 ≤ l4 then
    some (l2, B)
  else
    c1 (FX4_shift B l1 l4) fun B10 =>
    c2 (FX4_schedule B10) fun r11 B13 =>
    if r11 = 0 then
      lt1 (l4 + (1 : Int32)) fun x15 =>
      k8 l1 l2 l3 x15 B13
    else
      if l2 = (-6 : Int32) then
        FX2_findBestPlace_64 k8 l1 l4 B13
      else
        c1 (FX2_lateTogether B13) fun r22 =>
        if l3 ≤ r22 then
          lt1 (l4 + (1 : Int32)) fun x25 =>
          k8 l1 l2 l3 x25 B13
        else
          FX2_findBestPlace_64 k8 l1 l4 B13
set_option maxRecDepth 100000 in
set_option maxHeartbeats 4000000 in
theorem wX2_findBestPlace_8s {E : WE} {V : VT} {A : Nat → Prop} {H0 : Heap} {M : Mem} {j : Nat} (hj : j < 11) (Cx : CX E RX2 cX2_findBestPlace 5 3 88) {r : Int32} {B' : Blk} (hret : RetI E V A H0 cX2_findBestPlace .int r (jb M j B')) {k8 : Int32 → Int32 → Int32 → Int32 → Blk → Option (Int32 × Blk)} (hk8 : ∀ {H : Heap} {locs : List Loc} {ls : Array Slot} {B : Blk} {l1 : Int32} {l2 : Int32} {l3 : Int32} {l4 : Int32}, Wd V A H0 (jb M j B) (eS E) H locs → lv_has ls 5 [(0, .ref (vA V j 0)), (1, .int l1), (2, .int l2), (3, .int l3), (4, .int l4)] → k8 l1 l2 l3 l4 B = some (r, B') → Wq E H locs 8 ls []) {H : Heap} {locs : List Loc} {ls : Array Slot} {l1 : Int32} {l2 : Int32} {l3 : Int32} {l4 : Int32} {B : Blk} (hW : Wd V A H0 (jb M j B) (eS E) H locs) (hl : lv_has ls 5 [(0, .ref (vA V j 0)), (1, .int l1), (2, .int l2), (3, .int l3), (4, .int l4)]) (hF : FX2_findBestPlace_8s k8 l1 l2 l3 l4 B = some (r, B')) : Wq E H locs 8 ls [] := by
  unfold FX2_findBestPlace_8s at hF
  refine q_iload Cx dX2_findBestPlace_8 (lv_at hl 4 rfl) ?_
  refine q_aload_n Cx dX2_findBestPlace_10 rfl (lv_at hl 0 rfl) ?_
  refine q_get (v := .ref (vA V j 1)) Cx hW (oM hj) ic2 0 (by decide) rfl wd_113 dX2_findBestPlace_11 ?_
  refine q_get (v := .ref (vA V j 9)) Cx hW (oP hj) ic4 7 (by decide) rfl wd_58 dX2_findBestPlace_14 ?_
  refine q_aload_n Cx dX2_findBestPlace_17 rfl (lv_at hl 0 rfl) ?_
  refine q_get (v := .ref (vA V j 1)) Cx hW (oM hj) ic2 0 (by decide) rfl wd_113 dX2_findBestPlace_18 ?_
  refine q_get (v := .ref (vA V j 3)) Cx hW (oP hj) ic4 1 (by decide) rfl wd_47 dX2_findBestPlace_21 ?_
  refine q_iload_n Cx dX2_findBestPlace_24 rfl (lv_at hl 1 rfl) ?_
  obtain ⟨h2, v1, e3, hF⟩ := ld_some hF
  refine qb_iald Cx hW (ai_3 hj) h2 e3 dX2_findBestPlace_25 ?_
  obtain ⟨h5, v4, e6, hF⟩ := ld_some hF
  refine qb_iald Cx hW (ai_9 hj) h5 e6 dX2_findBestPlace_26 ?_
  refine q_icmp_ge (tgt := 78) Cx dX2_findBestPlace_27 (by decide) (fun c7 => ?_) (fun c7 => ?_)
  · have hF := (if_pos c7).symm.trans hF
    refine q_iload_n Cx dX2_findBestPlace_78 rfl (lv_at hl 2 rfl) ?_
    obtain ⟨rfl, rfl⟩ := Prod.mk.inj (Option.some.inj hF)
    exact hret _ _ _ _ dX2_findBestPlace_79 (nI32 _) hW
  · have hF := (if_neg c7).symm.trans hF
    refine q_aload_n Cx dX2_findBestPlace_30 rfl (lv_at hl 0 rfl) ?_
    refine q_get (v := .ref (vA V j 1)) Cx hW (oM hj) ic2 0 (by decide) rfl wd_113 dX2_findBestPlace_31 ?_
    refine q_iload_n Cx dX2_findBestPlace_34 rfl (lv_at hl 1 rfl) ?_
    refine q_iload Cx dX2_findBestPlace_35 (lv_at hl 4 rfl) ?_
    obtain ⟨B10, e9, hF⟩ := c1_some hF
    refine q_callV (as := [.int l1, .int l4]) (rest := []) Cx (kX4_shift hj e9) okX4_shift ovX4_shift wd_462 ⟨rfl, rfl, by decide, by decide⟩ hW (oP hj) ic4 rfl hl.1 (Nat.le_of_ble_eq_true rfl) rfl dX2_findBestPlace_37 (fun H locs hW => ?_)
    refine q_aload_n Cx dX2_findBestPlace_40 rfl (lv_at hl 0 rfl) ?_
    refine q_get (v := .ref (vA V j 1)) Cx hW (oM hj) ic2 0 (by decide) rfl wd_113 dX2_findBestPlace_41 ?_
    obtain ⟨r11, B13, e12, hF⟩ := c2_some hF
    refine q_callI (as := []) (rest := []) Cx (kX4_schedule hj e12) okX4_schedule ovX4_schedule wd_253 ⟨rfl, rfl, by decide, by decide⟩ hW (oP hj) ic4 rfl hl.1 (Nat.le_of_ble_eq_true rfl) rfl dX2_findBestPlace_44 (fun H locs hW => ?_)
    refine q_if_eq (tgt := 72) Cx dX2_findBestPlace_47 (by decide) (fun c14 => ?_) (fun c14 => ?_)
    · have hF := (if_pos c14).symm.trans hF
      obtain ⟨x15, e16, hF⟩ := lt1_some hF
      refine q_iinc (k := 4) (v := x15) (lv' := [(4, .int x15), (0, .ref (vA V j 0)), (1, .int l1), (2, .int l2), (3, .int l3)]) Cx dX2_findBestPlace_72 hl rfl e16.symm (by decide) rfl (fun ls hl => ?_)
      refine q_goto (tgt := 8) Cx dX2_findBestPlace_75 (by decide) ?_
      exact hk8 hW (lv_sub hl [1, 2, 3, 4, 0] rfl) hF
    · have hF := (if_neg c14).symm.trans hF
      refine q_iload_n Cx dX2_findBestPlace_50 rfl (lv_at hl 2 rfl) ?_
      refine q_bipush (v := (-6 : Int32)) Cx dX2_findBestPlace_51 (by decide) ?_
      refine q_icmp_eq (tgt := 64) Cx dX2_findBestPlace_53 (by decide) (fun c17 => ?_) (fun c17 => ?_)
      · have hF := (if_pos c17).symm.trans hF
        exact wX2_findBestPlace_64 hj Cx hret hk8 hW (lv_sub hl [0, 1, 4] rfl) hF
      · have hF := (if_neg c17).symm.trans hF
        refine q_aload_n Cx dX2_findBestPlace_56 rfl (lv_at hl 0 rfl) ?_
        obtain ⟨r22, e23, hF⟩ := c1_some hF
        refine q_callI (as := []) (rest := []) Cx (kX2_lateTogether hj e23) okX2_lateTogether ovX2_lateTogether wd_303 ⟨rfl, rfl, by decide, by decide⟩ hW (oM hj) ic2 rfl hl.1 (Nat.le_of_ble_eq_true rfl) rfl dX2_findBestPlace_57 (fun H locs hW => ?_)
        refine q_iload_n Cx dX2_findBestPlace_60 rfl (lv_at hl 3 rfl) ?_
        refine q_icmp_ge (tgt := 72) Cx dX2_findBestPlace_61 (by decide) (fun c24 => ?_) (fun c24 => ?_)
        · have hF := (if_pos c24).symm.trans hF
          obtain ⟨x25, e26, hF⟩ := lt1_some hF
          refine q_iinc (k := 4) (v := x25) (lv' := [(4, .int x25), (0, .ref (vA V j 0)), (1, .int l1), (2, .int l2), (3, .int l3)]) Cx dX2_findBestPlace_72 hl rfl e26.symm (by decide) rfl (fun ls hl => ?_)
          refine q_goto (tgt := 8) Cx dX2_findBestPlace_75 (by decide) ?_
          exact hk8 hW (lv_sub hl [1, 2, 3, 4, 0] rfl) hF
        · have hF := (if_neg c24).symm.trans hF
          exact wX2_findBestPlace_64 hj Cx hret hk8 hW (lv_sub hl [0, 1, 4] rfl) hF
def FX2_findBestPlace_8 : Nat → Int32 → Int32 → Int32 → Int32 → Blk → Option (Int32 × Blk)
  | 0 => fun _ _ _ _ _ => none
  | n + 1 => FX2_findBestPlace_8s (FX2_findBestPlace_8 n)
set_option maxRecDepth 100000 in
theorem wX2_findBestPlace_8 {E : WE} {V : VT} {A : Nat → Prop} {H0 : Heap} {M : Mem} {j : Nat} (hj : j < 11) (Cx : CX E RX2 cX2_findBestPlace 5 3 88) {r : Int32} {B' : Blk} (hret : RetI E V A H0 cX2_findBestPlace .int r (jb M j B')) : ∀ (n : Nat) {H : Heap} {locs : List Loc} {ls : Array Slot} {l1 : Int32} {l2 : Int32} {l3 : Int32} {l4 : Int32} {B : Blk}, Wd V A H0 (jb M j B) (eS E) H locs → lv_has ls 5 [(0, .ref (vA V j 0)), (1, .int l1), (2, .int l2), (3, .int l3), (4, .int l4)] → FX2_findBestPlace_8 n l1 l2 l3 l4 B = some (r, B') → Wq E H locs 8 ls [] := by
  intro n
  induction n with
  | zero => intro _ _ _ _ _ _ _ _ hW hl hF; cases hF
  | succ n ih => intro _ _ _ _ _ _ _ _ hW hl hF; exact wX2_findBestPlace_8s hj Cx hret ih hW hl hF
def FX2_findBestPlace (B : Blk) (l1 : Int32) : Option (Int32 × Blk) :=
  FX2_findBestPlace_8 fu l1 (-6 : Int32) (0 : Int32) (0 : Int32) B
set_option maxRecDepth 100000 in
set_option maxHeartbeats 4000000 in
theorem wX2_findBestPlace {E : WE} {V : VT} {A : Nat → Prop} {H0 : Heap} {M : Mem} {j : Nat} (hj : j < 11) (Cx : CX E RX2 cX2_findBestPlace 5 3 88) {r : Int32} {B' : Blk} (hret : RetI E V A H0 cX2_findBestPlace .int r (jb M j B')) {H : Heap} {locs : List Loc} {ls : Array Slot} {l1 : Int32} {B : Blk} (hW : Wd V A H0 (jb M j B) (eS E) H locs) (hl : lv_has ls 5 [(0, .ref (vA V j 0)), (1, .int l1)]) (hF : FX2_findBestPlace B l1 = some (r, B')) : Wq E H locs 0 ls [] := by
  unfold FX2_findBestPlace at hF
  refine q_bipush (v := (-6 : Int32)) Cx dX2_findBestPlace_0 (by decide) ?_
  refine q_istore_n (lv' := [(2, .int (-6 : Int32)), (0, .ref (vA V j 0)), (1, .int l1)]) Cx dX2_findBestPlace_2 rfl hl (by decide) rfl (fun ls hl => ?_)
  refine q_iconst (v := (0 : Int32)) Cx dX2_findBestPlace_3 (by decide) ?_
  refine q_istore_n (lv' := [(3, .int (0 : Int32)), (2, .int (-6 : Int32)), (0, .ref (vA V j 0)), (1, .int l1)]) Cx dX2_findBestPlace_4 rfl hl (by decide) rfl (fun ls hl => ?_)
  refine q_iconst (v := (0 : Int32)) Cx dX2_findBestPlace_5 (by decide) ?_
  refine q_istore (lv' := [(4, .int (0 : Int32)), (3, .int (0 : Int32)), (2, .int (-6 : Int32)), (0, .ref (vA V j 0)), (1, .int l1)]) Cx dX2_findBestPlace_6 hl (by decide) rfl (fun ls hl => ?_)
  exact wX2_findBestPlace_8 hj Cx hret fu hW (lv_sub hl [3, 4, 2, 1, 0] rfl) hF
set_option maxRecDepth 100000 in
theorem kX2_findBestPlace {l : Launch} {V : VT} {M : Mem} {j : Nat} (hj : j < 11) {B : Blk} {l1 : Int32} {r : Int32} {B' : Blk} (hF : FX2_findBestPlace B l1 = some (r, B')) : MetI l V yX2_findBestPlace cX2_findBestPlace 5 .int ({ frames := 3, cells := 0, slots := 0, locals := 88 } : Room) [.ref (vA V j 0), .int l1] r (jb M j B) (jb M j B') := metI_of (by decide) (Nat.le_of_ble_eq_true rfl) (fun E H0 _ Cx hret H locs ls hW hl => wX2_findBestPlace hj Cx hret hW hl hF)
