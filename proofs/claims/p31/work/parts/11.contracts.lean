theorem dX0_copyFrom_0 : decode cX0_copyFrom 0 = .ok (.aload_n 0, 1) := by decide +kernel
theorem dX0_copyFrom_1 : decode cX0_copyFrom 1 = .ok (.aload_n 1, 1) := by decide +kernel
theorem dX0_copyFrom_2 : decode cX0_copyFrom 2 = .ok (.getfield 24, 3) := by decide +kernel
theorem dX0_copyFrom_5 : decode cX0_copyFrom 5 = .ok (.putfield 24, 3) := by decide +kernel
theorem dX0_copyFrom_8 : decode cX0_copyFrom 8 = .ok (.aload_n 1, 1) := by decide +kernel
theorem dX0_copyFrom_9 : decode cX0_copyFrom 9 = .ok (.getfield 9, 3) := by decide +kernel
theorem dX0_copyFrom_12 : decode cX0_copyFrom 12 = .ok (.iconst 0, 1) := by decide +kernel
theorem dX0_copyFrom_13 : decode cX0_copyFrom 13 = .ok (.aload_n 0, 1) := by decide +kernel
theorem dX0_copyFrom_14 : decode cX0_copyFrom 14 = .ok (.getfield 9, 3) := by decide +kernel
theorem dX0_copyFrom_17 : decode cX0_copyFrom 17 = .ok (.iconst 0, 1) := by decide +kernel
theorem dX0_copyFrom_18 : decode cX0_copyFrom 18 = .ok (.bipush 40, 2) := by decide +kernel
theorem dX0_copyFrom_20 : decode cX0_copyFrom 20 = .ok (.invokestatic 28, 3) := by decide +kernel
theorem dX0_copyFrom_23 : decode cX0_copyFrom 23 = .ok (.aload_n 1, 1) := by decide +kernel
theorem dX0_copyFrom_24 : decode cX0_copyFrom 24 = .ok (.getfield 15, 3) := by decide +kernel
theorem dX0_copyFrom_27 : decode cX0_copyFrom 27 = .ok (.iconst 0, 1) := by decide +kernel
theorem dX0_copyFrom_28 : decode cX0_copyFrom 28 = .ok (.aload_n 0, 1) := by decide +kernel
theorem dX0_copyFrom_29 : decode cX0_copyFrom 29 = .ok (.getfield 15, 3) := by decide +kernel
theorem dX0_copyFrom_32 : decode cX0_copyFrom 32 = .ok (.iconst 0, 1) := by decide +kernel
theorem dX0_copyFrom_33 : decode cX0_copyFrom 33 = .ok (.bipush 40, 2) := by decide +kernel
theorem dX0_copyFrom_35 : decode cX0_copyFrom 35 = .ok (.invokestatic 28, 3) := by decide +kernel
theorem dX0_copyFrom_38 : decode cX0_copyFrom 38 = .ok (.aload_n 1, 1) := by decide +kernel
theorem dX0_copyFrom_39 : decode cX0_copyFrom 39 = .ok (.getfield 18, 3) := by decide +kernel
theorem dX0_copyFrom_42 : decode cX0_copyFrom 42 = .ok (.iconst 0, 1) := by decide +kernel
theorem dX0_copyFrom_43 : decode cX0_copyFrom 43 = .ok (.aload_n 0, 1) := by decide +kernel
theorem dX0_copyFrom_44 : decode cX0_copyFrom 44 = .ok (.getfield 18, 3) := by decide +kernel
theorem dX0_copyFrom_47 : decode cX0_copyFrom 47 = .ok (.iconst 0, 1) := by decide +kernel
theorem dX0_copyFrom_48 : decode cX0_copyFrom 48 = .ok (.bipush 40, 2) := by decide +kernel
theorem dX0_copyFrom_50 : decode cX0_copyFrom 50 = .ok (.invokestatic 28, 3) := by decide +kernel
theorem dX0_copyFrom_53 : decode cX0_copyFrom 53 = .ok (.aload_n 1, 1) := by decide +kernel
theorem dX0_copyFrom_54 : decode cX0_copyFrom 54 = .ok (.getfield 21, 3) := by decide +kernel
theorem dX0_copyFrom_57 : decode cX0_copyFrom 57 = .ok (.iconst 0, 1) := by decide +kernel
theorem dX0_copyFrom_58 : decode cX0_copyFrom 58 = .ok (.aload_n 0, 1) := by decide +kernel
theorem dX0_copyFrom_59 : decode cX0_copyFrom 59 = .ok (.getfield 21, 3) := by decide +kernel
theorem dX0_copyFrom_62 : decode cX0_copyFrom 62 = .ok (.iconst 0, 1) := by decide +kernel
theorem dX0_copyFrom_63 : decode cX0_copyFrom 63 = .ok (.bipush 40, 2) := by decide +kernel
theorem dX0_copyFrom_65 : decode cX0_copyFrom 65 = .ok (.invokestatic 28, 3) := by decide +kernel
theorem dX0_copyFrom_68 : decode cX0_copyFrom 68 = .ok (.return_, 1) := by decide +kernel
theorem okX0_copyFrom : CalOK yX0_copyFrom cX0_copyFrom 2 (none) 1 := ⟨wd_19, wd_230, by decide +kernel⟩
theorem ovX0_copyFrom : VirOK yX0_copyFrom := ⟨wd_228, wd_229⟩
def FX0_copyFrom (B : Blk) (Bo : Blk) : Option Blk :=
  lt1 (bs B 2 0 ((Bo 2) 0)) fun B1 =>
  lt1 (bc B1 12 (va_cpy (Bo 12) (B1 12) 0 0 40)) fun B3 =>
  lt1 (bc B3 13 (va_cpy (Bo 13) (B3 13) 0 0 40)) fun B5 =>
  lt1 (bc B5 14 (va_cpy (Bo 14) (B5 14) 0 0 40)) fun B7 =>
  lt1 (bc B7 15 (va_cpy (Bo 15) (B7 15) 0 0 40)) fun B9 =>
  some B9
set_option maxRecDepth 100000 in
set_option maxHeartbeats 4000000 in
theorem wX0_copyFrom {E : WE} {V : VT} {A : Nat → Prop} {H0 : Heap} {M : Mem} {j : Nat} (hj : j < 11) {o : Nat} (ho : o < 11) (hoj : o ≠ j) (Cx : CX E RX0 cX0_copyFrom 2 1 60) {B' : Blk} (hret : RetV E V A H0 cX0_copyFrom (jb M j B')) {Bo : Blk} (hBo : Bo = M o) {H : Heap} {locs : List Loc} {ls : Array Slot} {B : Blk} (hW : Wd V A H0 (jb M j B) (eS E) H locs) (hl : lv_has ls 2 [(0, .ref (vA V j 2)), (1, .ref (vA V o 2))]) (hF : FX0_copyFrom B Bo = some B') : Wq E H locs 0 ls [] := by
  unfold FX0_copyFrom at hF
  refine q_aload_n Cx dX0_copyFrom_0 rfl (lv_at hl 0 rfl) ?_
  refine q_aload_n Cx dX0_copyFrom_1 rfl (lv_at hl 1 rfl) ?_
  refine q_get (v := .int ((Bo 2) 0)) Cx hW (oC ho) ic0 0 (by decide) (by rw [jb_ne hoj, ← hBo]; rfl) wd_91 dX0_copyFrom_2 ?_
  obtain ⟨B1, e2, hF⟩ := lt1_some hF
  refine qb_put Cx hW (oC hj) ic0 0 (by decide) (Nat.le_of_ble_eq_true rfl) e2 rfl rfl ⟨nI32 _, rfl⟩ wd_91 dX0_copyFrom_5 (fun H locs hW => ?_)
  refine q_aload_n Cx dX0_copyFrom_8 rfl (lv_at hl 1 rfl) ?_
  refine q_get (v := .ref (vA V o 12)) Cx hW (oC ho) ic0 1 (by decide) rfl wd_94 dX0_copyFrom_9 ?_
  refine q_iconst (v := (0 : Int32)) Cx dX0_copyFrom_12 (by decide) ?_
  refine q_aload_n Cx dX0_copyFrom_13 rfl (lv_at hl 0 rfl) ?_
  refine q_get (v := .ref (vA V j 12)) Cx hW (oC hj) ic0 1 (by decide) rfl wd_94 dX0_copyFrom_14 ?_
  refine q_iconst (v := (0 : Int32)) Cx dX0_copyFrom_17 (by decide) ?_
  refine q_bipush (v := (40 : Int32)) Cx dX0_copyFrom_18 (by decide) ?_
  obtain ⟨B3, e4, hF⟩ := lt1_some hF
  refine qb_copy (cnt := (40 : Int32)) (B' := B3) Cx hW (ai_12 ho) (ai_12 hj) hoj (by decide) (by decide) (by decide) (by rw [e4, hBo]; rfl) wd_231 wd_226 wd_225 wd_22 hl.1 (by decide) (Nat.le_of_ble_eq_true rfl) dX0_copyFrom_20 (fun H locs hW => ?_)
  refine q_aload_n Cx dX0_copyFrom_23 rfl (lv_at hl 1 rfl) ?_
  refine q_get (v := .ref (vA V o 13)) Cx hW (oC ho) ic0 2 (by decide) rfl wd_96 dX0_copyFrom_24 ?_
  refine q_iconst (v := (0 : Int32)) Cx dX0_copyFrom_27 (by decide) ?_
  refine q_aload_n Cx dX0_copyFrom_28 rfl (lv_at hl 0 rfl) ?_
  refine q_get (v := .ref (vA V j 13)) Cx hW (oC hj) ic0 2 (by decide) rfl wd_96 dX0_copyFrom_29 ?_
  refine q_iconst (v := (0 : Int32)) Cx dX0_copyFrom_32 (by decide) ?_
  refine q_bipush (v := (40 : Int32)) Cx dX0_copyFrom_33 (by decide) ?_
  obtain ⟨B5, e6, hF⟩ := lt1_some hF
  refine qb_copy (cnt := (40 : Int32)) (B' := B5) Cx hW (ai_13 ho) (ai_13 hj) hoj (by decide) (by decide) (by decide) (by rw [e6, hBo]; rfl) wd_231 wd_226 wd_225 wd_22 hl.1 (by decide) (Nat.le_of_ble_eq_true rfl) dX0_copyFrom_35 (fun H locs hW => ?_)
  refine q_aload_n Cx dX0_copyFrom_38 rfl (lv_at hl 1 rfl) ?_
  refine q_get (v := .ref (vA V o 14)) Cx hW (oC ho) ic0 3 (by decide) rfl wd_98 dX0_copyFrom_39 ?_
  refine q_iconst (v := (0 : Int32)) Cx dX0_copyFrom_42 (by decide) ?_
  refine q_aload_n Cx dX0_copyFrom_43 rfl (lv_at hl 0 rfl) ?_
  refine q_get (v := .ref (vA V j 14)) Cx hW (oC hj) ic0 3 (by decide) rfl wd_98 dX0_copyFrom_44 ?_
  refine q_iconst (v := (0 : Int32)) Cx dX0_copyFrom_47 (by decide) ?_
  refine q_bipush (v := (40 : Int32)) Cx dX0_copyFrom_48 (by decide) ?_
  obtain ⟨B7, e8, hF⟩ := lt1_some hF
  refine qb_copy (cnt := (40 : Int32)) (B' := B7) Cx hW (ai_14 ho) (ai_14 hj) hoj (by decide) (by decide) (by decide) (by rw [e8, hBo]; rfl) wd_231 wd_226 wd_225 wd_22 hl.1 (by decide) (Nat.le_of_ble_eq_true rfl) dX0_copyFrom_50 (fun H locs hW => ?_)
  refine q_aload_n Cx dX0_copyFrom_53 rfl (lv_at hl 1 rfl) ?_
  refine q_get (v := .ref (vA V o 15)) Cx hW (oC ho) ic0 4 (by decide) rfl wd_100 dX0_copyFrom_54 ?_
  refine q_iconst (v := (0 : Int32)) Cx dX0_copyFrom_57 (by decide) ?_
  refine q_aload_n Cx dX0_copyFrom_58 rfl (lv_at hl 0 rfl) ?_
  refine q_get (v := .ref (vA V j 15)) Cx hW (oC hj) ic0 4 (by decide) rfl wd_100 dX0_copyFrom_59 ?_
  refine q_iconst (v := (0 : Int32)) Cx dX0_copyFrom_62 (by decide) ?_
  refine q_bipush (v := (40 : Int32)) Cx dX0_copyFrom_63 (by decide) ?_
  obtain ⟨B9, e10, hF⟩ := lt1_some hF
  refine qb_copy (cnt := (40 : Int32)) (B' := B9) Cx hW (ai_15 ho) (ai_15 hj) hoj (by decide) (by decide) (by decide) (by rw [e10, hBo]; rfl) wd_231 wd_226 wd_225 wd_22 hl.1 (by decide) (Nat.le_of_ble_eq_true rfl) dX0_copyFrom_65 (fun H locs hW => ?_)
  obtain rfl := Option.some.inj hF
  exact hret _ _ _ _ dX0_copyFrom_68 hW
set_option maxRecDepth 100000 in
theorem kX0_copyFrom {l : Launch} {V : VT} {M : Mem} {j : Nat} (hj : j < 11) {o : Nat} (ho : o < 11) (hoj : o ≠ j) {Bo : Blk} (hBo : Bo = M o) {B : Blk} {B' : Blk} (hF : FX0_copyFrom B Bo = some B') : MetV l V yX0_copyFrom cX0_copyFrom 2 ({ frames := 1, cells := 0, slots := 0, locals := 60 } : Room) [.ref (vA V j 2), .ref (vA V o 2)] (jb M j B) (jb M j B') := metV_of (by decide) (Nat.le_of_ble_eq_true rfl) (fun E H0 _ Cx hret H locs ls hW hl => wX0_copyFrom hj ho hoj Cx hret hBo hW hl hF)
theorem dX0_append_0 : decode cX0_append 0 = .ok (.aload_n 0, 1) := by decide +kernel
theorem dX0_append_1 : decode cX0_append 1 = .ok (.getfield 24, 3) := by decide +kernel
theorem dX0_append_4 : decode cX0_append 4 = .ok (.bipush 40, 2) := by decide +kernel
theorem dX0_append_6 : decode cX0_append 6 = .ok (.if_icmp .lt 5, 3) := by decide +kernel
theorem dX0_append_9 : decode cX0_append 9 = .ok (.iconst 0, 1) := by decide +kernel
theorem dX0_append_10 : decode cX0_append 10 = .ok (.ireturn, 1) := by decide +kernel
theorem dX0_append_11 : decode cX0_append 11 = .ok (.aload_n 0, 1) := by decide +kernel
theorem dX0_append_12 : decode cX0_append 12 = .ok (.getfield 9, 3) := by decide +kernel
theorem dX0_append_15 : decode cX0_append 15 = .ok (.aload_n 0, 1) := by decide +kernel
theorem dX0_append_16 : decode cX0_append 16 = .ok (.getfield 24, 3) := by decide +kernel
theorem dX0_append_19 : decode cX0_append 19 = .ok (.iload_n 1, 1) := by decide +kernel
theorem dX0_append_20 : decode cX0_append 20 = .ok (.iastore, 1) := by decide +kernel
theorem dX0_append_21 : decode cX0_append 21 = .ok (.aload_n 0, 1) := by decide +kernel
theorem dX0_append_22 : decode cX0_append 22 = .ok (.getfield 15, 3) := by decide +kernel
theorem dX0_append_25 : decode cX0_append 25 = .ok (.aload_n 0, 1) := by decide +kernel
theorem dX0_append_26 : decode cX0_append 26 = .ok (.getfield 24, 3) := by decide +kernel
theorem dX0_append_29 : decode cX0_append 29 = .ok (.iload_n 2, 1) := by decide +kernel
theorem dX0_append_30 : decode cX0_append 30 = .ok (.iastore, 1) := by decide +kernel
theorem dX0_append_31 : decode cX0_append 31 = .ok (.aload_n 0, 1) := by decide +kernel
theorem dX0_append_32 : decode cX0_append 32 = .ok (.getfield 18, 3) := by decide +kernel
theorem dX0_append_35 : decode cX0_append 35 = .ok (.aload_n 0, 1) := by decide +kernel
theorem dX0_append_36 : decode cX0_append 36 = .ok (.getfield 24, 3) := by decide +kernel
theorem dX0_append_39 : decode cX0_append 39 = .ok (.iload_n 3, 1) := by decide +kernel
theorem dX0_append_40 : decode cX0_append 40 = .ok (.iastore, 1) := by decide +kernel
theorem dX0_append_41 : decode cX0_append 41 = .ok (.aload_n 0, 1) := by decide +kernel
theorem dX0_append_42 : decode cX0_append 42 = .ok (.getfield 21, 3) := by decide +kernel
theorem dX0_append_45 : decode cX0_append 45 = .ok (.aload_n 0, 1) := by decide +kernel
theorem dX0_append_46 : decode cX0_append 46 = .ok (.getfield 24, 3) := by decide +kernel
theorem dX0_append_49 : decode cX0_append 49 = .ok (.iload 4, 2) := by decide +kernel
theorem dX0_append_51 : decode cX0_append 51 = .ok (.iastore, 1) := by decide +kernel
theorem dX0_append_52 : decode cX0_append 52 = .ok (.aload_n 0, 1) := by decide +kernel
theorem dX0_append_53 : decode cX0_append 53 = .ok (.dup, 1) := by decide +kernel
theorem dX0_append_54 : decode cX0_append 54 = .ok (.getfield 24, 3) := by decide +kernel
theorem dX0_append_57 : decode cX0_append 57 = .ok (.iconst 1, 1) := by decide +kernel
theorem dX0_append_58 : decode cX0_append 58 = .ok (.iadd, 1) := by decide +kernel
theorem dX0_append_59 : decode cX0_append 59 = .ok (.putfield 24, 3) := by decide +kernel
theorem dX0_append_62 : decode cX0_append 62 = .ok (.iconst 1, 1) := by decide +kernel
theorem dX0_append_63 : decode cX0_append 63 = .ok (.ireturn, 1) := by decide +kernel
theorem okX0_append : CalOK yX0_append cX0_append 5 (some .boolean) 4 := ⟨wd_19, wd_523, by decide +kernel⟩
theorem ovX0_append : VirOK yX0_append := ⟨wd_521, wd_522⟩
def FX0_append (B : Blk) (l1 : Int32) (l2 : Int32) (l3 : Int32) (l4 : Int32) : Option (Int32 × Blk) :=
  if ((B 2) 0) < (40 : Int32) then
    stb B 12 40 ((B 2) 0) l1 fun B2 =>
    stb B2 13 40 ((B2 2) 0) l2 fun B5 =>
    stb B5 14 40 ((B5 2) 0) l3 fun B8 =>
    stb B8 15 40 ((B8 2) 0) l4 fun B11 =>
    lt1 (bs B11 2 0 (((B11 2) 0) + (1 : Int32))) fun B14 =>
    some ((1 : Int32), B14)
  else
    some ((0 : Int32), B)
set_option maxRecDepth 100000 in
set_option maxHeartbeats 4000000 in
theorem wX0_append {E : WE} {V : VT} {A : Nat → Prop} {H0 : Heap} {M : Mem} {j : Nat} (hj : j < 11) (Cx : CX E RX0 cX0_append 5 0 0) {r : Int32} {B' : Blk} (hret : RetI E V A H0 cX0_append .boolean r (jb M j B')) {H : Heap} {locs : List Loc} {ls : Array Slot} {l1 : Int32} {l2 : Int32} {l3 : Int32} {l4 : Int32} {B : Blk} (hW : Wd V A H0 (jb M j B) (eS E) H locs) (hl : lv_has ls 5 [(0, .ref (vA V j 2)), (1, .int l1), (2, .int l2), (3, .int l3), (4, .int l4)]) (hF : FX0_append B l1 l2 l3 l4 = some (r, B')) : Wq E H locs 0 ls [] := by
  unfold FX0_append at hF
  refine q_aload_n Cx dX0_append_0 rfl (lv_at hl 0 rfl) ?_
  refine qb_get (v := .int ((B 2) 0)) Cx hW (oC hj) ic0 0 (by decide) rfl wd_91 dX0_append_1 ?_
  refine q_bipush (v := (40 : Int32)) Cx dX0_append_4 (by decide) ?_
  refine q_icmp_lt (tgt := 11) Cx dX0_append_6 (by decide) (fun c1 => ?_) (fun c1 => ?_)
  · have hF := (if_pos c1).symm.trans hF
    refine q_aload_n Cx dX0_append_11 rfl (lv_at hl 0 rfl) ?_
    refine q_get (v := .ref (vA V j 12)) Cx hW (oC hj) ic0 1 (by decide) rfl wd_94 dX0_append_12 ?_
    refine q_aload_n Cx dX0_append_15 rfl (lv_at hl 0 rfl) ?_
    refine qb_get (v := .int ((B 2) 0)) Cx hW (oC hj) ic0 0 (by decide) rfl wd_91 dX0_append_16 ?_
    refine q_iload_n Cx dX0_append_19 rfl (lv_at hl 1 rfl) ?_
    obtain ⟨h3, B2, e4, hF⟩ := stb_some hF
    refine qb_iast Cx hW (ai_12 hj) h3 e4 dX0_append_20 (fun H locs hW => ?_)
    refine q_aload_n Cx dX0_append_21 rfl (lv_at hl 0 rfl) ?_
    refine q_get (v := .ref (vA V j 13)) Cx hW (oC hj) ic0 2 (by decide) rfl wd_96 dX0_append_22 ?_
    refine q_aload_n Cx dX0_append_25 rfl (lv_at hl 0 rfl) ?_
    refine qb_get (v := .int ((B2 2) 0)) Cx hW (oC hj) ic0 0 (by decide) rfl wd_91 dX0_append_26 ?_
    refine q_iload_n Cx dX0_append_29 rfl (lv_at hl 2 rfl) ?_
    obtain ⟨h6, B5, e7, hF⟩ := stb_some hF
    refine qb_iast Cx hW (ai_13 hj) h6 e7 dX0_append_30 (fun H locs hW => ?_)
    refine q_aload_n Cx dX0_append_31 rfl (lv_at hl 0 rfl) ?_
    refine q_get (v := .ref (vA V j 14)) Cx hW (oC hj) ic0 3 (by decide) rfl wd_98 dX0_append_32 ?_
    refine q_aload_n Cx dX0_append_35 rfl (lv_at hl 0 rfl) ?_
    refine qb_get (v := .int ((B5 2) 0)) Cx hW (oC hj) ic0 0 (by decide) rfl wd_91 dX0_append_36 ?_
    refine q_iload_n Cx dX0_append_39 rfl (lv_at hl 3 rfl) ?_
    obtain ⟨h9, B8, e10, hF⟩ := stb_some hF
    refine qb_iast Cx hW (ai_14 hj) h9 e10 dX0_append_40 (fun H locs hW => ?_)
    refine q_aload_n Cx dX0_append_41 rfl (lv_at hl 0 rfl) ?_
    refine q_get (v := .ref (vA V j 15)) Cx hW (oC hj) ic0 4 (by decide) rfl wd_100 dX0_append_42 ?_
    refine q_aload_n Cx dX0_append_45 rfl (lv_at hl 0 rfl) ?_
    refine qb_get (v := .int ((B8 2) 0)) Cx hW (oC hj) ic0 0 (by decide) rfl wd_91 dX0_append_46 ?_
    refine q_iload Cx dX0_append_49 (lv_at hl 4 rfl) ?_
    obtain ⟨h12, B11, e13, hF⟩ := stb_some hF
    refine qb_iast Cx hW (ai_15 hj) h12 e13 dX0_append_51 (fun H locs hW => ?_)
    refine q_aload_n Cx dX0_append_52 rfl (lv_at hl 0 rfl) ?_
    refine q_dup Cx dX0_append_53 rfl ?_
    refine qb_get (v := .int ((B11 2) 0)) Cx hW (oC hj) ic0 0 (by decide) rfl wd_91 dX0_append_54 ?_
    refine q_iconst (v := (1 : Int32)) Cx dX0_append_57 (by decide) ?_
    refine q_iadd Cx dX0_append_58 ?_
    obtain ⟨B14, e15, hF⟩ := lt1_some hF
    refine qb_put Cx hW (oC hj) ic0 0 (by decide) (Nat.le_of_ble_eq_true rfl) e15 rfl rfl ⟨nI32 _, rfl⟩ wd_91 dX0_append_59 (fun H locs hW => ?_)
    refine q_iconst (v := (1 : Int32)) Cx dX0_append_62 (by decide) ?_
    obtain ⟨rfl, rfl⟩ := Prod.mk.inj (Option.some.inj hF)
    exact hret _ _ _ _ dX0_append_63 (by rfl) hW
  · have hF := (if_neg c1).symm.trans hF
    refine q_iconst (v := (0 : Int32)) Cx dX0_append_9 (by decide) ?_
    obtain ⟨rfl, rfl⟩ := Prod.mk.inj (Option.some.inj hF)
    exact hret _ _ _ _ dX0_append_10 (by rfl) hW
set_option maxRecDepth 100000 in
theorem kX0_append {l : Launch} {V : VT} {M : Mem} {j : Nat} (hj : j < 11) {B : Blk} {l1 : Int32} {l2 : Int32} {l3 : Int32} {l4 : Int32} {r : Int32} {B' : Blk} (hF : FX0_append B l1 l2 l3 l4 = some (r, B')) : MetI l V yX0_append cX0_append 5 .boolean ({ frames := 0, cells := 0, slots := 0, locals := 0 } : Room) [.ref (vA V j 2), .int l1, .int l2, .int l3, .int l4] r (jb M j B) (jb M j B') := metI_of (by decide) (Nat.le_of_ble_eq_true rfl) (fun E H0 _ Cx hret H locs ls hW hl => wX0_append hj Cx hret hW hl hF)
theorem dX0_has_0 : decode cX0_has 0 = .ok (.iload_n 1, 1) := by decide +kernel
theorem dX0_has_1 : decode cX0_has 1 = .ok (.ifCond .lt 15, 3) := by decide +kernel
theorem dX0_has_4 : decode cX0_has 4 = .ok (.iload_n 1, 1) := by decide +kernel
theorem dX0_has_5 : decode cX0_has 5 = .ok (.aload_n 0, 1) := by decide +kernel
theorem dX0_has_6 : decode cX0_has 6 = .ok (.getfield 24, 3) := by decide +kernel
theorem dX0_has_9 : decode cX0_has 9 = .ok (.if_icmp .ge 7, 3) := by decide +kernel
theorem dX0_has_12 : decode cX0_has 12 = .ok (.iconst 1, 1) := by decide +kernel
theorem dX0_has_13 : decode cX0_has 13 = .ok (.goto 4, 3) := by decide +kernel
theorem dX0_has_16 : decode cX0_has 16 = .ok (.iconst 0, 1) := by decide +kernel
theorem dX0_has_17 : decode cX0_has 17 = .ok (.ireturn, 1) := by decide +kernel
theorem okX0_has : CalOK yX0_has cX0_has 2 (some .boolean) 1 := ⟨wd_19, wd_563, by decide +kernel⟩
theorem ovX0_has : VirOK yX0_has := ⟨wd_561, wd_562⟩
def FX0_has (B : Blk) (l1 : Int32) : Option Int32 :=
  if l1 < 0 then
    some (0 : Int32)
  else
    if ((B 2) 0) ≤ l1 then
      some (0 : Int32)
    else
      some (1 : Int32)
set_option maxRecDepth 100000 in
set_option maxHeartbeats 4000000 in
theorem wX0_has {E : WE} {V : VT} {A : Nat → Prop} {H0 : Heap} {M : Mem} {j : Nat} (hj : j < 11) (Cx : CX E RX0 cX0_has 2 0 0) {r : Int32} {B : Blk} (hret : RetI E V A H0 cX0_has .boolean r (jb M j B)) {H : Heap} {locs : List Loc} {ls : Array Slot} {l1 : Int32} (hW : Wd V A H0 (jb M j B) (eS E) H locs) (hl : lv_has ls 2 [(0, .ref (vA V j 2)), (1, .int l1)]) (hF : FX0_has B l1 = some r) : Wq E H locs 0 ls [] := by
  unfold FX0_has at hF
  refine q_iload_n Cx dX0_has_0 rfl (lv_at hl 1 rfl) ?_
  refine q_if_lt (tgt := 16) Cx dX0_has_1 (by decide) (fun c1 => ?_) (fun c1 => ?_)
  · have hF := (if_pos c1).symm.trans hF
    refine q_iconst (v := (0 : Int32)) Cx dX0_has_16 (by decide) ?_
    obtain rfl := Option.some.inj hF
    exact hret _ _ _ _ dX0_has_17 (by rfl) hW
  · have hF := (if_neg c1).symm.trans hF
    refine q_iload_n Cx dX0_has_4 rfl (lv_at hl 1 rfl) ?_
    refine q_aload_n Cx dX0_has_5 rfl (lv_at hl 0 rfl) ?_
    refine qb_get (v := .int ((B 2) 0)) Cx hW (oC hj) ic0 0 (by decide) rfl wd_91 dX0_has_6 ?_
    refine q_icmp_ge (tgt := 16) Cx dX0_has_9 (by decide) (fun c2 => ?_) (fun c2 => ?_)
    · have hF := (if_pos c2).symm.trans hF
      refine q_iconst (v := (0 : Int32)) Cx dX0_has_16 (by decide) ?_
      obtain rfl := Option.some.inj hF
      exact hret _ _ _ _ dX0_has_17 (by rfl) hW
    · have hF := (if_neg c2).symm.trans hF
      refine q_iconst (v := (1 : Int32)) Cx dX0_has_12 (by decide) ?_
      refine q_goto (tgt := 17) Cx dX0_has_13 (by decide) ?_
      obtain rfl := Option.some.inj hF
      exact hret _ _ _ _ dX0_has_17 (by rfl) hW
set_option maxRecDepth 100000 in
theorem kX0_has {l : Launch} {V : VT} {M : Mem} {j : Nat} (hj : j < 11) {B : Blk} {l1 : Int32} {r : Int32} (hF : FX0_has B l1 = some r) : MetI l V yX0_has cX0_has 2 .boolean ({ frames := 0, cells := 0, slots := 0, locals := 0 } : Room) [.ref (vA V j 2), .int l1] r (jb M j B) (jb M j B) := metI_of (by decide) (Nat.le_of_ble_eq_true rfl) (fun E H0 _ Cx hret H locs ls hW hl => wX0_has hj Cx hret hW hl hF)
theorem dX0_remove_0 : decode cX0_remove 0 = .ok (.iload_n 1, 1) := by decide +kernel
theorem dX0_remove_1 : decode cX0_remove 1 = .ok (.istore_n 2, 1) := by decide +kernel
theorem dX0_remove_2 : decode cX0_remove 2 = .ok (.iload_n 2, 1) := by decide +kernel
theorem dX0_remove_3 : decode cX0_remove 3 = .ok (.iconst 1, 1) := by decide +kernel
theorem dX0_remove_4 : decode cX0_remove 4 = .ok (.iadd, 1) := by decide +kernel
theorem dX0_remove_5 : decode cX0_remove 5 = .ok (.aload_n 0, 1) := by decide +kernel
theorem dX0_remove_6 : decode cX0_remove 6 = .ok (.getfield 24, 3) := by decide +kernel
theorem dX0_remove_9 : decode cX0_remove 9 = .ok (.if_icmp .ge 65, 3) := by decide +kernel
theorem dX0_remove_12 : decode cX0_remove 12 = .ok (.aload_n 0, 1) := by decide +kernel
theorem dX0_remove_13 : decode cX0_remove 13 = .ok (.getfield 9, 3) := by decide +kernel
theorem dX0_remove_16 : decode cX0_remove 16 = .ok (.iload_n 2, 1) := by decide +kernel
theorem dX0_remove_17 : decode cX0_remove 17 = .ok (.aload_n 0, 1) := by decide +kernel
theorem dX0_remove_18 : decode cX0_remove 18 = .ok (.getfield 9, 3) := by decide +kernel
theorem dX0_remove_21 : decode cX0_remove 21 = .ok (.iload_n 2, 1) := by decide +kernel
theorem dX0_remove_22 : decode cX0_remove 22 = .ok (.iconst 1, 1) := by decide +kernel
theorem dX0_remove_23 : decode cX0_remove 23 = .ok (.iadd, 1) := by decide +kernel
theorem dX0_remove_24 : decode cX0_remove 24 = .ok (.iaload, 1) := by decide +kernel
theorem dX0_remove_25 : decode cX0_remove 25 = .ok (.iastore, 1) := by decide +kernel
theorem dX0_remove_26 : decode cX0_remove 26 = .ok (.aload_n 0, 1) := by decide +kernel
theorem dX0_remove_27 : decode cX0_remove 27 = .ok (.getfield 15, 3) := by decide +kernel
theorem dX0_remove_30 : decode cX0_remove 30 = .ok (.iload_n 2, 1) := by decide +kernel
theorem dX0_remove_31 : decode cX0_remove 31 = .ok (.aload_n 0, 1) := by decide +kernel
theorem dX0_remove_32 : decode cX0_remove 32 = .ok (.getfield 15, 3) := by decide +kernel
theorem dX0_remove_35 : decode cX0_remove 35 = .ok (.iload_n 2, 1) := by decide +kernel
theorem dX0_remove_36 : decode cX0_remove 36 = .ok (.iconst 1, 1) := by decide +kernel
theorem dX0_remove_37 : decode cX0_remove 37 = .ok (.iadd, 1) := by decide +kernel
theorem dX0_remove_38 : decode cX0_remove 38 = .ok (.iaload, 1) := by decide +kernel
theorem dX0_remove_39 : decode cX0_remove 39 = .ok (.iastore, 1) := by decide +kernel
theorem dX0_remove_40 : decode cX0_remove 40 = .ok (.aload_n 0, 1) := by decide +kernel
theorem dX0_remove_41 : decode cX0_remove 41 = .ok (.getfield 18, 3) := by decide +kernel
theorem dX0_remove_44 : decode cX0_remove 44 = .ok (.iload_n 2, 1) := by decide +kernel
theorem dX0_remove_45 : decode cX0_remove 45 = .ok (.aload_n 0, 1) := by decide +kernel
theorem dX0_remove_46 : decode cX0_remove 46 = .ok (.getfield 18, 3) := by decide +kernel
theorem dX0_remove_49 : decode cX0_remove 49 = .ok (.iload_n 2, 1) := by decide +kernel
theorem dX0_remove_50 : decode cX0_remove 50 = .ok (.iconst 1, 1) := by decide +kernel
theorem dX0_remove_51 : decode cX0_remove 51 = .ok (.iadd, 1) := by decide +kernel
theorem dX0_remove_52 : decode cX0_remove 52 = .ok (.iaload, 1) := by decide +kernel
theorem dX0_remove_53 : decode cX0_remove 53 = .ok (.iastore, 1) := by decide +kernel
theorem dX0_remove_54 : decode cX0_remove 54 = .ok (.aload_n 0, 1) := by decide +kernel
theorem dX0_remove_55 : decode cX0_remove 55 = .ok (.getfield 21, 3) := by decide +kernel
theorem dX0_remove_58 : decode cX0_remove 58 = .ok (.iload_n 2, 1) := by decide +kernel
theorem dX0_remove_59 : decode cX0_remove 59 = .ok (.aload_n 0, 1) := by decide +kernel
theorem dX0_remove_60 : decode cX0_remove 60 = .ok (.getfield 21, 3) := by decide +kernel
theorem dX0_remove_63 : decode cX0_remove 63 = .ok (.iload_n 2, 1) := by decide +kernel
theorem dX0_remove_64 : decode cX0_remove 64 = .ok (.iconst 1, 1) := by decide +kernel
theorem dX0_remove_65 : decode cX0_remove 65 = .ok (.iadd, 1) := by decide +kernel
theorem dX0_remove_66 : decode cX0_remove 66 = .ok (.iaload, 1) := by decide +kernel
theorem dX0_remove_67 : decode cX0_remove 67 = .ok (.iastore, 1) := by decide +kernel
theorem dX0_remove_68 : decode cX0_remove 68 = .ok (.iinc 2 1, 3) := by decide +kernel
theorem dX0_remove_71 : decode cX0_remove 71 = .ok (.goto (-69), 3) := by decide +kernel
theorem dX0_remove_74 : decode cX0_remove 74 = .ok (.aload_n 0, 1) := by decide +kernel
theorem dX0_remove_75 : decode cX0_remove 75 = .ok (.dup, 1) := by decide +kernel
theorem dX0_remove_76 : decode cX0_remove 76 = .ok (.getfield 24, 3) := by decide +kernel
theorem dX0_remove_79 : decode cX0_remove 79 = .ok (.iconst 1, 1) := by decide +kernel
theorem dX0_remove_80 : decode cX0_remove 80 = .ok (.isub, 1) := by decide +kernel
theorem dX0_remove_81 : decode cX0_remove 81 = .ok (.putfield 24, 3) := by decide +kernel
theorem dX0_remove_84 : decode cX0_remove 84 = .ok (.return_, 1) := by decide +kernel
theorem okX0_remove : CalOK yX0_remove cX0_remove 3 (none) 1 := ⟨wd_19, wd_588, by decide +kernel⟩
theorem ovX0_remove : VirOK yX0_remove := ⟨wd_587, wd_14⟩
def FX0_remove_2s (k2 : Int32 → Blk → Option Blk) (l2 : Int32) (B : Blk) : Option Blk :=
  if ((B 2) 0) ≤ (l2 + (1 : Int32)) then
    lt1 (bs B 2 0 (((B 2) 0) - (1 : Int32))) fun B2 =>
    some B2
  else
    ld (B 12) 40 (l2 + (1 : Int32)) fun v4 =>
    stb B 12 40 l2 v4 fun B7 =>
    ld (B7 13) 40 (l2 + (1 : Int32)) fun v10 =>
    stb B7 13 40 l2 v10 fun B13 =>
    ld (B13 14) 40 (l2 + (1 : Int32)) fun v16 =>
    stb B13 14 40 l2 v16 fun B19 =>
    ld (B19 15) 40 (l2 + (1 : Int32)) fun v22 =>
    stb B19 15 40 l2 v22 fun B25 =>
    lt1 (l2 + (1 : Int32)) fun x28 =>
    k2 x28 B25
set_option maxRecDepth 100000 in
set_option maxHeartbeats 4000000 in
theorem wX0_remove_2s {E : WE} {V : VT} {A : Nat → Prop} {H0 : Heap} {M : Mem} {j : Nat} (hj : j < 11) (Cx : CX E RX0 cX0_remove 3 0 0) {B' : Blk} (hret : RetV E V A H0 cX0_remove (jb M j B')) {k2 : Int32 → Blk → Option Blk} (hk2 : ∀ {H : Heap} {locs : List Loc} {ls : Array Slot} {B : Blk} {l2 : Int32}, Wd V A H0 (jb M j B) (eS E) H locs → lv_has ls 3 [(0, .ref (vA V j 2)), (2, .int l2)] → k2 l2 B = some B' → Wq E H locs 2 ls []) {H : Heap} {locs : List Loc} {ls : Array Slot} {l2 : Int32} {B : Blk} (hW : Wd V A H0 (jb M j B) (eS E) H locs) (hl : lv_has ls 3 [(0, .ref (vA V j 2)), (2, .int l2)]) (hF : FX0_remove_2s k2 l2 B = some B') : Wq E H locs 2 ls [] := by
  unfold FX0_remove_2s at hF
  refine q_iload_n Cx dX0_remove_2 rfl (lv_at hl 1 rfl) ?_
  refine q_iconst (v := (1 : Int32)) Cx dX0_remove_3 (by decide) ?_
  refine q_iadd Cx dX0_remove_4 ?_
  refine q_aload_n Cx dX0_remove_5 rfl (lv_at hl 0 rfl) ?_
  refine qb_get (v := .int ((B 2) 0)) Cx hW (oC hj) ic0 0 (by decide) rfl wd_91 dX0_remove_6 ?_
  refine q_icmp_ge (tgt := 74) Cx dX0_remove_9 (by decide) (fun c1 => ?_) (fun c1 => ?_)
  · have hF := (if_pos c1).symm.trans hF
    refine q_aload_n Cx dX0_remove_74 rfl (lv_at hl 0 rfl) ?_
    refine q_dup Cx dX0_remove_75 rfl ?_
    refine qb_get (v := .int ((B 2) 0)) Cx hW (oC hj) ic0 0 (by decide) rfl wd_91 dX0_remove_76 ?_
    refine q_iconst (v := (1 : Int32)) Cx dX0_remove_79 (by decide) ?_
    refine q_isub Cx dX0_remove_80 ?_
    obtain ⟨B2, e3, hF⟩ := lt1_some hF
    refine qb_put Cx hW (oC hj) ic0 0 (by decide) (Nat.le_of_ble_eq_true rfl) e3 rfl rfl ⟨nI32 _, rfl⟩ wd_91 dX0_remove_81 (fun H locs hW => ?_)
    obtain rfl := Option.some.inj hF
    exact hret _ _ _ _ dX0_remove_84 hW
  · have hF := (if_neg c1).symm.trans hF
    refine q_aload_n Cx dX0_remove_12 rfl (lv_at hl 0 rfl) ?_
    refine q_get (v := .ref (vA V j 12)) Cx hW (oC hj) ic0 1 (by decide) rfl wd_94 dX0_remove_13 ?_
    refine q_iload_n Cx dX0_remove_16 rfl (lv_at hl 1 rfl) ?_
    refine q_aload_n Cx dX0_remove_17 rfl (lv_at hl 0 rfl) ?_
    refine q_get (v := .ref (vA V j 12)) Cx hW (oC hj) ic0 1 (by decide) rfl wd_94 dX0_remove_18 ?_
    refine q_iload_n Cx dX0_remove_21 rfl (lv_at hl 1 rfl) ?_
    refine q_iconst (v := (1 : Int32)) Cx dX0_remove_22 (by decide) ?_
    refine q_iadd Cx dX0_remove_23 ?_
    obtain ⟨h5, v4, e6, hF⟩ := ld_some hF
    refine qb_iald Cx hW (ai_12 hj) h5 e6 dX0_remove_24 ?_
    obtain ⟨h8, B7, e9, hF⟩ := stb_some hF
    refine qb_iast Cx hW (ai_12 hj) h8 e9 dX0_remove_25 (fun H locs hW => ?_)
    refine q_aload_n Cx dX0_remove_26 rfl (lv_at hl 0 rfl) ?_
    refine q_get (v := .ref (vA V j 13)) Cx hW (oC hj) ic0 2 (by decide) rfl wd_96 dX0_remove_27 ?_
    refine q_iload_n Cx dX0_remove_30 rfl (lv_at hl 1 rfl) ?_
    refine q_aload_n Cx dX0_remove_31 rfl (lv_at hl 0 rfl) ?_
    refine q_get (v := .ref (vA V j 13)) Cx hW (oC hj) ic0 2 (by decide) rfl wd_96 dX0_remove_32 ?_
    refine q_iload_n Cx dX0_remove_35 rfl (lv_at hl 1 rfl) ?_
    refine q_iconst (v := (1 : Int32)) Cx dX0_remove_36 (by decide) ?_
    refine q_iadd Cx dX0_remove_37 ?_
    obtain ⟨h11, v10, e12, hF⟩ := ld_some hF
    refine qb_iald Cx hW (ai_13 hj) h11 e12 dX0_remove_38 ?_
    obtain ⟨h14, B13, e15, hF⟩ := stb_some hF
    refine qb_iast Cx hW (ai_13 hj) h14 e15 dX0_remove_39 (fun H locs hW => ?_)
    refine q_aload_n Cx dX0_remove_40 rfl (lv_at hl 0 rfl) ?_
    refine q_get (v := .ref (vA V j 14)) Cx hW (oC hj) ic0 3 (by decide) rfl wd_98 dX0_remove_41 ?_
    refine q_iload_n Cx dX0_remove_44 rfl (lv_at hl 1 rfl) ?_
    refine q_aload_n Cx dX0_remove_45 rfl (lv_at hl 0 rfl) ?_
    refine q_get (v := .ref (vA V j 14)) Cx hW (oC hj) ic0 3 (by decide) rfl wd_98 dX0_remove_46 ?_
    refine q_iload_n Cx dX0_remove_49 rfl (lv_at hl 1 rfl) ?_
    refine q_iconst (v := (1 : Int32)) Cx dX0_remove_50 (by decide) ?_
    refine q_iadd Cx dX0_remove_51 ?_
    obtain ⟨h17, v16, e18, hF⟩ := ld_some hF
    refine qb_iald Cx hW (ai_14 hj) h17 e18 dX0_remove_52 ?_
    obtain ⟨h20, B19, e21, hF⟩ := stb_some hF
    refine qb_iast Cx hW (ai_14 hj) h20 e21 dX0_remove_53 (fun H locs hW => ?_)
    refine q_aload_n Cx dX0_remove_54 rfl (lv_at hl 0 rfl) ?_
    refine q_get (v := .ref (vA V j 15)) Cx hW (oC hj) ic0 4 (by decide) rfl wd_100 dX0_remove_55 ?_
    refine q_iload_n Cx dX0_remove_58 rfl (lv_at hl 1 rfl) ?_
    refine q_aload_n Cx dX0_remove_59 rfl (lv_at hl 0 rfl) ?_
    refine q_get (v := .ref (vA V j 15)) Cx hW (oC hj) ic0 4 (by decide) rfl wd_100 dX0_remove_60 ?_
    refine q_iload_n Cx dX0_remove_63 rfl (lv_at hl 1 rfl) ?_
    refine q_iconst (v := (1 : Int32)) Cx dX0_remove_64 (by decide) ?_
    refine q_iadd Cx dX0_remove_65 ?_
    obtain ⟨h23, v22, e24, hF⟩ := ld_some hF
    refine qb_iald Cx hW (ai_15 hj) h23 e24 dX0_remove_66 ?_
    obtain ⟨h26, B25, e27, hF⟩ := stb_some hF
    refine qb_iast Cx hW (ai_15 hj) h26 e27 dX0_remove_67 (fun H locs hW => ?_)
    obtain ⟨x28, e29, hF⟩ := lt1_some hF
    refine q_iinc (k := 1) (v := x28) (lv' := [(2, .int x28), (0, .ref (vA V j 2))]) Cx dX0_remove_68 hl rfl e29.symm (by decide) rfl (fun ls hl => ?_)
    refine q_goto (tgt := 2) Cx dX0_remove_71 (by decide) ?_
    exact hk2 hW (lv_sub hl [1, 0] rfl) hF
def FX0_remove_2 : Nat → Int32 → Blk → Option Blk
  | 0 => fun _ _ => none
  | n + 1 => FX0_remove_2s (FX0_remove_2 n)
set_option maxRecDepth 100000 in
theorem wX0_remove_2 {E : WE} {V : VT} {A : Nat → Prop} {H0 : Heap} {M : Mem} {j : Nat} (hj : j < 11) (Cx : CX E RX0 cX0_remove 3 0 0) {B' : Blk} (hret : RetV E V A H0 cX0_remove (jb M j B')) : ∀ (n : Nat) {H : Heap} {locs : List Loc} {ls : Array Slot} {l2 : Int32} {B : Blk}, Wd V A H0 (jb M j B) (eS E) H locs → lv_has ls 3 [(0, .ref (vA V j 2)), (2, .int l2)] → FX0_remove_2 n l2 B = some B' → Wq E H locs 2 ls [] := by
  intro n
  induction n with
  | zero => intro _ _ _ _ _ hW hl hF; cases hF
  | succ n ih => intro _ _ _ _ _ hW hl hF; exact wX0_remove_2s hj Cx hret ih hW hl hF
def FX0_remove (B : Blk) (l1 : Int32) : Option Blk :=
  FX0_remove_2 fu l1 B
set_option maxRecDepth 100000 in
set_option maxHeartbeats 4000000 in
theorem wX0_remove {E : WE} {V : VT} {A : Nat → Prop} {H0 : Heap} {M : Mem} {j : Nat} (hj : j < 11) (Cx : CX E RX0 cX0_remove 3 0 0) {B' : Blk} (hret : RetV E V A H0 cX0_remove (jb M j B')) {H : Heap} {locs : List Loc} {ls : Array Slot} {l1 : Int32} {B : Blk} (hW : Wd V A H0 (jb M j B) (eS E) H locs) (hl : lv_has ls 3 [(0, .ref (vA V j 2)), (1, .int l1)]) (hF : FX0_remove B l1 = some B') : Wq E H locs 0 ls [] := by
  unfold FX0_remove at hF
  refine q_iload_n Cx dX0_remove_0 rfl (lv_at hl 1 rfl) ?_
  refine q_istore_n (lv' := [(2, .int l1), (0, .ref (vA V j 2)), (1, .int l1)]) Cx dX0_remove_1 rfl hl (by decide) rfl (fun ls hl => ?_)
  exact wX0_remove_2 hj Cx hret fu hW (lv_sub hl [1, 0] rfl) hF
set_option maxRecDepth 100000 in
theorem kX0_remove {l : Launch} {V : VT} {M : Mem} {j : Nat} (hj : j < 11) {B : Blk} {l1 : Int32} {B' : Blk} (hF : FX0_remove B l1 = some B') : MetV l V yX0_remove cX0_remove 3 ({ frames := 0, cells := 0, slots := 0, locals := 0 } : Room) [.ref (vA V j 2), .int l1] (jb M j B) (jb M j B') := metV_of (by decide) (Nat.le_of_ble_eq_true rfl) (fun E H0 _ Cx hret H locs ls hW hl => wX0_remove hj Cx hret hW hl hF)
theorem dX0_lessen_0 : decode cX0_lessen 0 = .ok (.aload_n 0, 1) := by decide +kernel
theorem dX0_lessen_1 : decode cX0_lessen 1 = .ok (.getfield 18, 3) := by decide +kernel
theorem dX0_lessen_4 : decode cX0_lessen 4 = .ok (.iload_n 1, 1) := by decide +kernel
theorem dX0_lessen_5 : decode cX0_lessen 5 = .ok (.dup2, 1) := by decide +kernel
theorem dX0_lessen_6 : decode cX0_lessen 6 = .ok (.iaload, 1) := by decide +kernel
theorem dX0_lessen_7 : decode cX0_lessen 7 = .ok (.iload_n 2, 1) := by decide +kernel
theorem dX0_lessen_8 : decode cX0_lessen 8 = .ok (.isub, 1) := by decide +kernel
theorem dX0_lessen_9 : decode cX0_lessen 9 = .ok (.iastore, 1) := by decide +kernel
theorem dX0_lessen_10 : decode cX0_lessen 10 = .ok (.aload_n 0, 1) := by decide +kernel
theorem dX0_lessen_11 : decode cX0_lessen 11 = .ok (.getfield 18, 3) := by decide +kernel
theorem dX0_lessen_14 : decode cX0_lessen 14 = .ok (.iload_n 1, 1) := by decide +kernel
theorem dX0_lessen_15 : decode cX0_lessen 15 = .ok (.iaload, 1) := by decide +kernel
theorem dX0_lessen_16 : decode cX0_lessen 16 = .ok (.istore_n 3, 1) := by decide +kernel
theorem dX0_lessen_17 : decode cX0_lessen 17 = .ok (.iload_n 3, 1) := by decide +kernel
theorem dX0_lessen_18 : decode cX0_lessen 18 = .ok (.ifCond .ne 8, 3) := by decide +kernel
theorem dX0_lessen_21 : decode cX0_lessen 21 = .ok (.aload_n 0, 1) := by decide +kernel
theorem dX0_lessen_22 : decode cX0_lessen 22 = .ok (.iload_n 1, 1) := by decide +kernel
theorem dX0_lessen_23 : decode cX0_lessen 23 = .ok (.invokevirtual 38, 3) := by decide +kernel
theorem dX0_lessen_26 : decode cX0_lessen 26 = .ok (.iload_n 3, 1) := by decide +kernel
theorem dX0_lessen_27 : decode cX0_lessen 27 = .ok (.ireturn, 1) := by decide +kernel
theorem okX0_lessen : CalOK yX0_lessen cX0_lessen 4 (some .int) 2 := ⟨wd_19, wd_584, by decide +kernel⟩
theorem ovX0_lessen : VirOK yX0_lessen := ⟨wd_582, wd_583⟩
def FX0_lessen (B : Blk) (l1 : Int32) (l2 : Int32) : Option (Int32 × Blk) :=
  ld (B 14) 40 l1 fun v1 =>
  stb B 14 40 l1 (v1 - l2) fun B4 =>
  ld (B4 14) 40 l1 fun v7 =>
  if v7 = 0 then
    c1 (FX0_remove B4 l1) fun B13 =>
    some (v7, B13)
  else
    some (v7, B4)
set_option maxRecDepth 100000 in
set_option maxHeartbeats 4000000 in
theorem wX0_lessen {E : WE} {V : VT} {A : Nat → Prop} {H0 : Heap} {M : Mem} {j : Nat} (hj : j < 11) (Cx : CX E RX0 cX0_lessen 4 1 22) {r : Int32} {B' : Blk} (hret : RetI E V A H0 cX0_lessen .int r (jb M j B')) {H : Heap} {locs : List Loc} {ls : Array Slot} {l1 : Int32} {l2 : Int32} {B : Blk} (hW : Wd V A H0 (jb M j B) (eS E) H locs) (hl : lv_has ls 4 [(0, .ref (vA V j 2)), (1, .int l1), (2, .int l2)]) (hF : FX0_lessen B l1 l2 = some (r, B')) : Wq E H locs 0 ls [] := by
  unfold FX0_lessen at hF
  refine q_aload_n Cx dX0_lessen_0 rfl (lv_at hl 0 rfl) ?_
  refine q_get (v := .ref (vA V j 14)) Cx hW (oC hj) ic0 3 (by decide) rfl wd_98 dX0_lessen_1 ?_
  refine q_iload_n Cx dX0_lessen_4 rfl (lv_at hl 1 rfl) ?_
  refine q_dup2 Cx dX0_lessen_5 rfl rfl ?_
  obtain ⟨h2, v1, e3, hF⟩ := ld_some hF
  refine qb_iald Cx hW (ai_14 hj) h2 e3 dX0_lessen_6 ?_
  refine q_iload_n Cx dX0_lessen_7 rfl (lv_at hl 2 rfl) ?_
  refine q_isub Cx dX0_lessen_8 ?_
  obtain ⟨h5, B4, e6, hF⟩ := stb_some hF
  refine qb_iast Cx hW (ai_14 hj) h5 e6 dX0_lessen_9 (fun H locs hW => ?_)
  refine q_aload_n Cx dX0_lessen_10 rfl (lv_at hl 0 rfl) ?_
  refine q_get (v := .ref (vA V j 14)) Cx hW (oC hj) ic0 3 (by decide) rfl wd_98 dX0_lessen_11 ?_
  refine q_iload_n Cx dX0_lessen_14 rfl (lv_at hl 1 rfl) ?_
  obtain ⟨h8, v7, e9, hF⟩ := ld_some hF
  refine qb_iald Cx hW (ai_14 hj) h8 e9 dX0_lessen_15 ?_
  refine q_istore_n (lv' := [(3, .int v7), (0, .ref (vA V j 2)), (1, .int l1), (2, .int l2)]) Cx dX0_lessen_16 rfl hl (by decide) rfl (fun ls hl => ?_)
  refine q_iload_n Cx dX0_lessen_17 rfl (lv_at hl 0 rfl) ?_
  refine q_if_ne (tgt := 26) Cx dX0_lessen_18 (by decide) (fun c10 => ?_) (fun c10 => ?_)
  · have hF := (if_neg c10).symm.trans hF
    refine q_iload_n Cx dX0_lessen_26 rfl (lv_at hl 0 rfl) ?_
    obtain ⟨rfl, rfl⟩ := Prod.mk.inj (Option.some.inj hF)
    exact hret _ _ _ _ dX0_lessen_27 (nI32 _) hW
  · have hF := (if_pos c10).symm.trans hF
    refine q_aload_n Cx dX0_lessen_21 rfl (lv_at hl 1 rfl) ?_
    refine q_iload_n Cx dX0_lessen_22 rfl (lv_at hl 2 rfl) ?_
    obtain ⟨B13, e12, hF⟩ := c1_some hF
    refine q_callV (as := [.int l1]) (rest := []) Cx (kX0_remove hj e12) okX0_remove ovX0_remove wd_585 ⟨rfl, rfl, by decide, by decide⟩ hW (oC hj) ic0 rfl hl.1 (Nat.le_of_ble_eq_true rfl) rfl dX0_lessen_23 (fun H locs hW => ?_)
    refine q_iload_n Cx dX0_lessen_26 rfl (lv_at hl 0 rfl) ?_
    obtain ⟨rfl, rfl⟩ := Prod.mk.inj (Option.some.inj hF)
    exact hret _ _ _ _ dX0_lessen_27 (nI32 _) hW
set_option maxRecDepth 100000 in
theorem kX0_lessen {l : Launch} {V : VT} {M : Mem} {j : Nat} (hj : j < 11) {B : Blk} {l1 : Int32} {l2 : Int32} {r : Int32} {B' : Blk} (hF : FX0_lessen B l1 l2 = some (r, B')) : MetI l V yX0_lessen cX0_lessen 4 .int ({ frames := 1, cells := 0, slots := 0, locals := 22 } : Room) [.ref (vA V j 2), .int l1, .int l2] r (jb M j B) (jb M j B') := metI_of (by decide) (Nat.le_of_ble_eq_true rfl) (fun E H0 _ Cx hret H locs ls hW hl => wX0_lessen hj Cx hret hW hl hF)
theorem dX0_soldBy_0 : decode cX0_soldBy 0 = .ok (.iconst 0, 1) := by decide +kernel
theorem dX0_soldBy_1 : decode cX0_soldBy 1 = .ok (.istore_n 2, 1) := by decide +kernel
theorem dX0_soldBy_2 : decode cX0_soldBy 2 = .ok (.iconst 0, 1) := by decide +kernel
theorem dX0_soldBy_3 : decode cX0_soldBy 3 = .ok (.istore_n 3, 1) := by decide +kernel
theorem dX0_soldBy_4 : decode cX0_soldBy 4 = .ok (.iload_n 3, 1) := by decide +kernel
theorem dX0_soldBy_5 : decode cX0_soldBy 5 = .ok (.aload_n 0, 1) := by decide +kernel
theorem dX0_soldBy_6 : decode cX0_soldBy 6 = .ok (.getfield 24, 3) := by decide +kernel
theorem dX0_soldBy_9 : decode cX0_soldBy 9 = .ok (.if_icmp .ge 32, 3) := by decide +kernel
theorem dX0_soldBy_12 : decode cX0_soldBy 12 = .ok (.iload_n 2, 1) := by decide +kernel
theorem dX0_soldBy_13 : decode cX0_soldBy 13 = .ok (.aload_n 0, 1) := by decide +kernel
theorem dX0_soldBy_14 : decode cX0_soldBy 14 = .ok (.getfield 9, 3) := by decide +kernel
theorem dX0_soldBy_17 : decode cX0_soldBy 17 = .ok (.iload_n 3, 1) := by decide +kernel
theorem dX0_soldBy_18 : decode cX0_soldBy 18 = .ok (.iaload, 1) := by decide +kernel
theorem dX0_soldBy_19 : decode cX0_soldBy 19 = .ok (.iload_n 1, 1) := by decide +kernel
theorem dX0_soldBy_20 : decode cX0_soldBy 20 = .ok (.if_icmp .ne 12, 3) := by decide +kernel
theorem dX0_soldBy_23 : decode cX0_soldBy 23 = .ok (.aload_n 0, 1) := by decide +kernel
theorem dX0_soldBy_24 : decode cX0_soldBy 24 = .ok (.getfield 18, 3) := by decide +kernel
theorem dX0_soldBy_27 : decode cX0_soldBy 27 = .ok (.iload_n 3, 1) := by decide +kernel
theorem dX0_soldBy_28 : decode cX0_soldBy 28 = .ok (.iaload, 1) := by decide +kernel
theorem dX0_soldBy_29 : decode cX0_soldBy 29 = .ok (.goto 4, 3) := by decide +kernel
theorem dX0_soldBy_32 : decode cX0_soldBy 32 = .ok (.iconst 0, 1) := by decide +kernel
theorem dX0_soldBy_33 : decode cX0_soldBy 33 = .ok (.iadd, 1) := by decide +kernel
theorem dX0_soldBy_34 : decode cX0_soldBy 34 = .ok (.istore_n 2, 1) := by decide +kernel
theorem dX0_soldBy_35 : decode cX0_soldBy 35 = .ok (.iinc 3 1, 3) := by decide +kernel
theorem dX0_soldBy_38 : decode cX0_soldBy 38 = .ok (.goto (-34), 3) := by decide +kernel
theorem dX0_soldBy_41 : decode cX0_soldBy 41 = .ok (.iload_n 2, 1) := by decide +kernel
theorem dX0_soldBy_42 : decode cX0_soldBy 42 = .ok (.ireturn, 1) := by decide +kernel
theorem okX0_soldBy : CalOK yX0_soldBy cX0_soldBy 4 (some .int) 1 := ⟨wd_19, wd_322, by decide +kernel⟩
theorem ovX0_soldBy : VirOK yX0_soldBy := ⟨wd_320, wd_321⟩
def FX0_soldBy_33 (B : Blk) (k4 : Int32 → Int32 → Int32 → Option Int32) (l1 : Int32) (l3 : Int32) (s0 : Int32) (s1 : Int32) : Option Int32 :=
  lt1 (s1 + s0) fun x6 =>
  lt1 (l3 + (1 : Int32)) fun x8 =>
  k4 l1 x6 x8
set_option maxRecDepth 100000 in
set_option maxHeartbeats 4000000 in
theorem wX0_soldBy_33 {E : WE} {V : VT} {A : Nat → Prop} {H0 : Heap} {M : Mem} {j : Nat} (hj : j < 11) (Cx : CX E RX0 cX0_soldBy 4 0 0) {r : Int32} {B : Blk} (hret : RetI E V A H0 cX0_soldBy .int r (jb M j B)) {k4 : Int32 → Int32 → Int32 → Option Int32} (hk4 : ∀ {H : Heap} {locs : List Loc} {ls : Array Slot} {l1 : Int32} {l2 : Int32} {l3 : Int32}, Wd V A H0 (jb M j B) (eS E) H locs → lv_has ls 4 [(0, .ref (vA V j 2)), (1, .int l1), (2, .int l2), (3, .int l3)] → k4 l1 l2 l3 = some r → Wq E H locs 4 ls []) {H : Heap} {locs : List Loc} {ls : Array Slot} {l1 : Int32} {l3 : Int32} {s0 : Int32} {s1 : Int32} (hW : Wd V A H0 (jb M j B) (eS E) H locs) (hl : lv_has ls 4 [(0, .ref (vA V j 2)), (1, .int l1), (3, .int l3)]) (hF : FX0_soldBy_33 B k4 l1 l3 s0 s1 = some r) : Wq E H locs 33 ls [.int s0, .int s1] := by
  unfold FX0_soldBy_33 at hF
  refine q_iadd Cx dX0_soldBy_33 ?_
  obtain ⟨x6, e7, hF⟩ := lt1_some hF
  refine q_topi e7 ?_
  refine q_istore_n (lv' := [(2, .int x6), (0, .ref (vA V j 2)), (1, .int l1), (3, .int l3)]) Cx dX0_soldBy_34 rfl hl (by decide) rfl (fun ls hl => ?_)
  obtain ⟨x8, e9, hF⟩ := lt1_some hF
  refine q_iinc (k := 3) (v := x8) (lv' := [(3, .int x8), (2, .int x6), (0, .ref (vA V j 2)), (1, .int l1)]) Cx dX0_soldBy_35 hl rfl e9.symm (by decide) rfl (fun ls hl => ?_)
  refine q_goto (tgt := 4) Cx dX0_soldBy_38 (by decide) ?_
  exact hk4 hW (lv_sub hl [2, 3, 1, 0] rfl) hF
def FX0_soldBy_4s (B : Blk) (k4 : Int32 → Int32 → Int32 → Option Int32) (l1 : Int32) (l2 : Int32) (l3 : Int32) : Option Int32 :=
  if ((B 2) 0) ≤ l3 then
    some l2
  else
    ld (B 12) 40 l3 fun v2 =>
    if v2 = l1 then
      ld (B 14) 40 l3 fun v10 =>
      FX0_soldBy_33 B k4 l1 l3 v10 l2
    else
      FX0_soldBy_33 B k4 l1 l3 (0 : Int32) l2
set_option maxRecDepth 100000 in
set_option maxHeartbeats 4000000 in
theorem wX0_soldBy_4s {E : WE} {V : VT} {A : Nat → Prop} {H0 : Heap} {M : Mem} {j : Nat} (hj : j < 11) (Cx : CX E RX0 cX0_soldBy 4 0 0) {r : Int32} {B : Blk} (hret : RetI E V A H0 cX0_soldBy .int r (jb M j B)) {k4 : Int32 → Int32 → Int32 → Option Int32} (hk4 : ∀ {H : Heap} {locs : List Loc} {ls : Array Slot} {l1 : Int32} {l2 : Int32} {l3 : Int32}, Wd V A H0 (jb M j B) (eS E) H locs → lv_has ls 4 [(0, .ref (vA V j 2)), (1, .int l1), (2, .int l2), (3, .int l3)] → k4 l1 l2 l3 = some r → Wq E H locs 4 ls []) {H : Heap} {locs : List Loc} {ls : Array Slot} {l1 : Int32} {l2 : Int32} {l3 : Int32} (hW : Wd V A H0 (jb M j B) (eS E) H locs) (hl : lv_has ls 4 [(0, .ref (vA V j 2)), (1, .int l1), (2, .int l2), (3, .int l3)]) (hF : FX0_soldBy_4s B k4 l1 l2 l3 = some r) : Wq E H locs 4 ls [] := by
  unfold FX0_soldBy_4s at hF
  refine q_iload_n Cx dX0_soldBy_4 rfl (lv_at hl 3 rfl) ?_
  refine q_aload_n Cx dX0_soldBy_5 rfl (lv_at hl 0 rfl) ?_
  refine qb_get (v := .int ((B 2) 0)) Cx hW (oC hj) ic0 0 (by decide) rfl wd_91 dX0_soldBy_6 ?_
  refine q_icmp_ge (tgt := 41) Cx dX0_soldBy_9 (by decide) (fun c1 => ?_) (fun c1 => ?_)
  · have hF := (if_pos c1).symm.trans hF
    refine q_iload_n Cx dX0_soldBy_41 rfl (lv_at hl 2 rfl) ?_
    obtain rfl := Option.some.inj hF
    exact hret _ _ _ _ dX0_soldBy_42 (nI32 _) hW
  · have hF := (if_neg c1).symm.trans hF
    refine q_iload_n Cx dX0_soldBy_12 rfl (lv_at hl 2 rfl) ?_
    refine q_aload_n Cx dX0_soldBy_13 rfl (lv_at hl 0 rfl) ?_
    refine q_get (v := .ref (vA V j 12)) Cx hW (oC hj) ic0 1 (by decide) rfl wd_94 dX0_soldBy_14 ?_
    refine q_iload_n Cx dX0_soldBy_17 rfl (lv_at hl 3 rfl) ?_
    obtain ⟨h3, v2, e4, hF⟩ := ld_some hF
    refine qb_iald Cx hW (ai_12 hj) h3 e4 dX0_soldBy_18 ?_
    refine q_iload_n Cx dX0_soldBy_19 rfl (lv_at hl 1 rfl) ?_
    refine q_icmp_ne (tgt := 32) Cx dX0_soldBy_20 (by decide) (fun c5 => ?_) (fun c5 => ?_)
    · have hF := (if_neg c5).symm.trans hF
      refine q_iconst (v := (0 : Int32)) Cx dX0_soldBy_32 (by decide) ?_
      exact wX0_soldBy_33 hj Cx hret hk4 hW (lv_sub hl [0, 1, 3] rfl) hF
    · have hF := (if_pos c5).symm.trans hF
      refine q_aload_n Cx dX0_soldBy_23 rfl (lv_at hl 0 rfl) ?_
      refine q_get (v := .ref (vA V j 14)) Cx hW (oC hj) ic0 3 (by decide) rfl wd_98 dX0_soldBy_24 ?_
      refine q_iload_n Cx dX0_soldBy_27 rfl (lv_at hl 3 rfl) ?_
      obtain ⟨h11, v10, e12, hF⟩ := ld_some hF
      refine qb_iald Cx hW (ai_14 hj) h11 e12 dX0_soldBy_28 ?_
      refine q_goto (tgt := 33) Cx dX0_soldBy_29 (by decide) ?_
      exact wX0_soldBy_33 hj Cx hret hk4 hW (lv_sub hl [0, 1, 3] rfl) hF
def FX0_soldBy_4 (B : Blk) : Nat → Int32 → Int32 → Int32 → Option Int32
  | 0 => fun _ _ _ => none
  | n + 1 => FX0_soldBy_4s B (FX0_soldBy_4 B n)
set_option maxRecDepth 100000 in
theorem wX0_soldBy_4 {E : WE} {V : VT} {A : Nat → Prop} {H0 : Heap} {M : Mem} {j : Nat} (hj : j < 11) (Cx : CX E RX0 cX0_soldBy 4 0 0) {r : Int32} {B : Blk} (hret : RetI E V A H0 cX0_soldBy .int r (jb M j B)) : ∀ (n : Nat) {H : Heap} {locs : List Loc} {ls : Array Slot} {l1 : Int32} {l2 : Int32} {l3 : Int32}, Wd V A H0 (jb M j B) (eS E) H locs → lv_has ls 4 [(0, .ref (vA V j 2)), (1, .int l1), (2, .int l2), (3, .int l3)] → FX0_soldBy_4 B n l1 l2 l3 = some r → Wq E H locs 4 ls [] := by
  intro n
  induction n with
  | zero => intro _ _ _ _ _ _ hW hl hF; cases hF
  | succ n ih => intro _ _ _ _ _ _ hW hl hF; exact wX0_soldBy_4s hj Cx hret ih hW hl hF
def FX0_soldBy (B : Blk) (l1 : Int32) : Option Int32 :=
  FX0_soldBy_4 B fu l1 (0 : Int32) (0 : Int32)
set_option maxRecDepth 100000 in
set_option maxHeartbeats 4000000 in
theorem wX0_soldBy {E : WE} {V : VT} {A : Nat → Prop} {H0 : Heap} {M : Mem} {j : Nat} (hj : j < 11) (Cx : CX E RX0 cX0_soldBy 4 0 0) {r : Int32} {B : Blk} (hret : RetI E V A H0 cX0_soldBy .int r (jb M j B)) {H : Heap} {locs : List Loc} {ls : Array Slot} {l1 : Int32} (hW : Wd V A H0 (jb M j B) (eS E) H locs) (hl : lv_has ls 4 [(0, .ref (vA V j 2)), (1, .int l1)]) (hF : FX0_soldBy B l1 = some r) : Wq E H locs 0 ls [] := by
  unfold FX0_soldBy at hF
  refine q_iconst (v := (0 : Int32)) Cx dX0_soldBy_0 (by decide) ?_
  refine q_istore_n (lv' := [(2, .int (0 : Int32)), (0, .ref (vA V j 2)), (1, .int l1)]) Cx dX0_soldBy_1 rfl hl (by decide) rfl (fun ls hl => ?_)
  refine q_iconst (v := (0 : Int32)) Cx dX0_soldBy_2 (by decide) ?_
  refine q_istore_n (lv' := [(3, .int (0 : Int32)), (2, .int (0 : Int32)), (0, .ref (vA V j 2)), (1, .int l1)]) Cx dX0_soldBy_3 rfl hl (by decide) rfl (fun ls hl => ?_)
  exact wX0_soldBy_4 hj Cx hret fu hW (lv_sub hl [2, 3, 1, 0] rfl) hF
set_option maxRecDepth 100000 in
theorem kX0_soldBy {l : Launch} {V : VT} {M : Mem} {j : Nat} (hj : j < 11) {B : Blk} {l1 : Int32} {r : Int32} (hF : FX0_soldBy B l1 = some r) : MetI l V yX0_soldBy cX0_soldBy 4 .int ({ frames := 0, cells := 0, slots := 0, locals := 0 } : Room) [.ref (vA V j 2), .int l1] r (jb M j B) (jb M j B) := metI_of (by decide) (Nat.le_of_ble_eq_true rfl) (fun E H0 _ Cx hret H locs ls hW hl => wX0_soldBy hj Cx hret hW hl hF)
theorem dX0_boughtBy_0 : decode cX0_boughtBy 0 = .ok (.iconst 0, 1) := by decide +kernel
theorem dX0_boughtBy_1 : decode cX0_boughtBy 1 = .ok (.istore_n 2, 1) := by decide +kernel
theorem dX0_boughtBy_2 : decode cX0_boughtBy 2 = .ok (.iconst 0, 1) := by decide +kernel
theorem dX0_boughtBy_3 : decode cX0_boughtBy 3 = .ok (.istore_n 3, 1) := by decide +kernel
theorem dX0_boughtBy_4 : decode cX0_boughtBy 4 = .ok (.iload_n 3, 1) := by decide +kernel
theorem dX0_boughtBy_5 : decode cX0_boughtBy 5 = .ok (.aload_n 0, 1) := by decide +kernel
theorem dX0_boughtBy_6 : decode cX0_boughtBy 6 = .ok (.getfield 24, 3) := by decide +kernel
theorem dX0_boughtBy_9 : decode cX0_boughtBy 9 = .ok (.if_icmp .ge 32, 3) := by decide +kernel
theorem dX0_boughtBy_12 : decode cX0_boughtBy 12 = .ok (.iload_n 2, 1) := by decide +kernel
theorem dX0_boughtBy_13 : decode cX0_boughtBy 13 = .ok (.aload_n 0, 1) := by decide +kernel
theorem dX0_boughtBy_14 : decode cX0_boughtBy 14 = .ok (.getfield 15, 3) := by decide +kernel
theorem dX0_boughtBy_17 : decode cX0_boughtBy 17 = .ok (.iload_n 3, 1) := by decide +kernel
theorem dX0_boughtBy_18 : decode cX0_boughtBy 18 = .ok (.iaload, 1) := by decide +kernel
theorem dX0_boughtBy_19 : decode cX0_boughtBy 19 = .ok (.iload_n 1, 1) := by decide +kernel
theorem dX0_boughtBy_20 : decode cX0_boughtBy 20 = .ok (.if_icmp .ne 12, 3) := by decide +kernel
theorem dX0_boughtBy_23 : decode cX0_boughtBy 23 = .ok (.aload_n 0, 1) := by decide +kernel
theorem dX0_boughtBy_24 : decode cX0_boughtBy 24 = .ok (.getfield 18, 3) := by decide +kernel
theorem dX0_boughtBy_27 : decode cX0_boughtBy 27 = .ok (.iload_n 3, 1) := by decide +kernel
theorem dX0_boughtBy_28 : decode cX0_boughtBy 28 = .ok (.iaload, 1) := by decide +kernel
theorem dX0_boughtBy_29 : decode cX0_boughtBy 29 = .ok (.goto 4, 3) := by decide +kernel
theorem dX0_boughtBy_32 : decode cX0_boughtBy 32 = .ok (.iconst 0, 1) := by decide +kernel
theorem dX0_boughtBy_33 : decode cX0_boughtBy 33 = .ok (.iadd, 1) := by decide +kernel
theorem dX0_boughtBy_34 : decode cX0_boughtBy 34 = .ok (.istore_n 2, 1) := by decide +kernel
theorem dX0_boughtBy_35 : decode cX0_boughtBy 35 = .ok (.iinc 3 1, 3) := by decide +kernel
theorem dX0_boughtBy_38 : decode cX0_boughtBy 38 = .ok (.goto (-34), 3) := by decide +kernel
theorem dX0_boughtBy_41 : decode cX0_boughtBy 41 = .ok (.iload_n 2, 1) := by decide +kernel
theorem dX0_boughtBy_42 : decode cX0_boughtBy 42 = .ok (.ireturn, 1) := by decide +kernel
theorem okX0_boughtBy : CalOK yX0_boughtBy cX0_boughtBy 4 (some .int) 1 := ⟨wd_19, wd_326, by decide +kernel⟩
theorem ovX0_boughtBy : VirOK yX0_boughtBy := ⟨wd_324, wd_325⟩
def FX0_boughtBy_33 (B : Blk) (k4 : Int32 → Int32 → Int32 → Option Int32) (l1 : Int32) (l3 : Int32) (s0 : Int32) (s1 : Int32) : Option Int32 :=
  lt1 (s1 + s0) fun x6 =>
  lt1 (l3 + (1 : Int32)) fun x8 =>
  k4 l1 x6 x8
set_option maxRecDepth 100000 in
set_option maxHeartbeats 4000000 in
theorem wX0_boughtBy_33 {E : WE} {V : VT} {A : Nat → Prop} {H0 : Heap} {M : Mem} {j : Nat} (hj : j < 11) (Cx : CX E RX0 cX0_boughtBy 4 0 0) {r : Int32} {B : Blk} (hret : RetI E V A H0 cX0_boughtBy .int r (jb M j B)) {k4 : Int32 → Int32 → Int32 → Option Int32} (hk4 : ∀ {H : Heap} {locs : List Loc} {ls : Array Slot} {l1 : Int32} {l2 : Int32} {l3 : Int32}, Wd V A H0 (jb M j B) (eS E) H locs → lv_has ls 4 [(0, .ref (vA V j 2)), (1, .int l1), (2, .int l2), (3, .int l3)] → k4 l1 l2 l3 = some r → Wq E H locs 4 ls []) {H : Heap} {locs : List Loc} {ls : Array Slot} {l1 : Int32} {l3 : Int32} {s0 : Int32} {s1 : Int32} (hW : Wd V A H0 (jb M j B) (eS E) H locs) (hl : lv_has ls 4 [(0, .ref (vA V j 2)), (1, .int l1), (3, .int l3)]) (hF : FX0_boughtBy_33 B k4 l1 l3 s0 s1 = some r) : Wq E H locs 33 ls [.int s0, .int s1] := by
  unfold FX0_boughtBy_33 at hF
  refine q_iadd Cx dX0_boughtBy_33 ?_
  obtain ⟨x6, e7, hF⟩ := lt1_some hF
  refine q_topi e7 ?_
  refine q_istore_n (lv' := [(2, .int x6), (0, .ref (vA V j 2)), (1, .int l1), (3, .int l3)]) Cx dX0_boughtBy_34 rfl hl (by decide) rfl (fun ls hl => ?_)
  obtain ⟨x8, e9, hF⟩ := lt1_some hF
  refine q_iinc (k := 3) (v := x8) (lv' := [(3, .int x8), (2, .int x6), (0, .ref (vA V j 2)), (1, .int l1)]) Cx dX0_boughtBy_35 hl rfl e9.symm (by decide) rfl (fun ls hl => ?_)
  refine q_goto (tgt := 4) Cx dX0_boughtBy_38 (by decide) ?_
  exact hk4 hW (lv_sub hl [2, 3, 1, 0] rfl) hF
def FX0_boughtBy_4s (B : Blk) (k4 : Int32 → Int32 → Int32 → Option Int32) (l1 : Int32) (l2 : Int32) (l3 : Int32) : Option Int32 :=
  if ((B 2) 0) ≤ l3 then
    some l2
  else
    ld (B 13) 40 l3 fun v2 =>
    if v2 = l1 then
      ld (B 14) 40 l3 fun v10 =>
      FX0_boughtBy_33 B k4 l1 l3 v10 l2
    else
      FX0_boughtBy_33 B k4 l1 l3 (0 : Int32) l2
set_option maxRecDepth 100000 in
set_option maxHeartbeats 4000000 in
theorem wX0_boughtBy_4s {E : WE} {V : VT} {A : Nat → Prop} {H0 : Heap} {M : Mem} {j : Nat} (hj : j < 11) (Cx : CX E RX0 cX0_boughtBy 4 0 0) {r : Int32} {B : Blk} (hret : RetI E V A H0 cX0_boughtBy .int r (jb M j B)) {k4 : Int32 → Int32 → Int32 → Option Int32} (hk4 : ∀ {H : Heap} {locs : List Loc} {ls : Array Slot} {l1 : Int32} {l2 : Int32} {l3 : Int32}, Wd V A H0 (jb M j B) (eS E) H locs → lv_has ls 4 [(0, .ref (vA V j 2)), (1, .int l1), (2, .int l2), (3, .int l3)] → k4 l1 l2 l3 = some r → Wq E H locs 4 ls []) {H : Heap} {locs : List Loc} {ls : Array Slot} {l1 : Int32} {l2 : Int32} {l3 : Int32} (hW : Wd V A H0 (jb M j B) (eS E) H locs) (hl : lv_has ls 4 [(0, .ref (vA V j 2)), (1, .int l1), (2, .int l2), (3, .int l3)]) (hF : FX0_boughtBy_4s B k4 l1 l2 l3 = some r) : Wq E H locs 4 ls [] := by
  unfold FX0_boughtBy_4s at hF
  refine q_iload_n Cx dX0_boughtBy_4 rfl (lv_at hl 3 rfl) ?_
  refine q_aload_n Cx dX0_boughtBy_5 rfl (lv_at hl 0 rfl) ?_
  refine qb_get (v := .int ((B 2) 0)) Cx hW (oC hj) ic0 0 (by decide) rfl wd_91 dX0_boughtBy_6 ?_
  refine q_icmp_ge (tgt := 41) Cx dX0_boughtBy_9 (by decide) (fun c1 => ?_) (fun c1 => ?_)
  · have hF := (if_pos c1).symm.trans hF
    refine q_iload_n Cx dX0_boughtBy_41 rfl (lv_at hl 2 rfl) ?_
    obtain rfl := Option.some.inj hF
    exact hret _ _ _ _ dX0_boughtBy_42 (nI32 _) hW
  · have hF := (if_neg c1).symm.trans hF
    refine q_iload_n Cx dX0_boughtBy_12 rfl (lv_at hl 2 rfl) ?_
    refine q_aload_n Cx dX0_boughtBy_13 rfl (lv_at hl 0 rfl) ?_
    refine q_get (v := .ref (vA V j 13)) Cx hW (oC hj) ic0 2 (by decide) rfl wd_96 dX0_boughtBy_14 ?_
    refine q_iload_n Cx dX0_boughtBy_17 rfl (lv_at hl 3 rfl) ?_
    obtain ⟨h3, v2, e4, hF⟩ := ld_some hF
    refine qb_iald Cx hW (ai_13 hj) h3 e4 dX0_boughtBy_18 ?_
    refine q_iload_n Cx dX0_boughtBy_19 rfl (lv_at hl 1 rfl) ?_
    refine q_icmp_ne (tgt := 32) Cx dX0_boughtBy_20 (by decide) (fun c5 => ?_) (fun c5 => ?_)
    · have hF := (if_neg c5).symm.trans hF
      refine q_iconst (v := (0 : Int32)) Cx dX0_boughtBy_32 (by decide) ?_
      exact wX0_boughtBy_33 hj Cx hret hk4 hW (lv_sub hl [0, 1, 3] rfl) hF
    · have hF := (if_pos c5).symm.trans hF
      refine q_aload_n Cx dX0_boughtBy_23 rfl (lv_at hl 0 rfl) ?_
      refine q_get (v := .ref (vA V j 14)) Cx hW (oC hj) ic0 3 (by decide) rfl wd_98 dX0_boughtBy_24 ?_
      refine q_iload_n Cx dX0_boughtBy_27 rfl (lv_at hl 3 rfl) ?_
      obtain ⟨h11, v10, e12, hF⟩ := ld_some hF
      refine qb_iald Cx hW (ai_14 hj) h11 e12 dX0_boughtBy_28 ?_
      refine q_goto (tgt := 33) Cx dX0_boughtBy_29 (by decide) ?_
      exact wX0_boughtBy_33 hj Cx hret hk4 hW (lv_sub hl [0, 1, 3] rfl) hF
def FX0_boughtBy_4 (B : Blk) : Nat → Int32 → Int32 → Int32 → Option Int32
  | 0 => fun _ _ _ => none
  | n + 1 => FX0_boughtBy_4s B (FX0_boughtBy_4 B n)
set_option maxRecDepth 100000 in
theorem wX0_boughtBy_4 {E : WE} {V : VT} {A : Nat → Prop} {H0 : Heap} {M : Mem} {j : Nat} (hj : j < 11) (Cx : CX E RX0 cX0_boughtBy 4 0 0) {r : Int32} {B : Blk} (hret : RetI E V A H0 cX0_boughtBy .int r (jb M j B)) : ∀ (n : Nat) {H : Heap} {locs : List Loc} {ls : Array Slot} {l1 : Int32} {l2 : Int32} {l3 : Int32}, Wd V A H0 (jb M j B) (eS E) H locs → lv_has ls 4 [(0, .ref (vA V j 2)), (1, .int l1), (2, .int l2), (3, .int l3)] → FX0_boughtBy_4 B n l1 l2 l3 = some r → Wq E H locs 4 ls [] := by
  intro n
  induction n with
  | zero => intro _ _ _ _ _ _ hW hl hF; cases hF
  | succ n ih => intro _ _ _ _ _ _ hW hl hF; exact wX0_boughtBy_4s hj Cx hret ih hW hl hF
def FX0_boughtBy (B : Blk) (l1 : Int32) : Option Int32 :=
  FX0_boughtBy_4 B fu l1 (0 : Int32) (0 : Int32)
set_option maxRecDepth 100000 in
set_option maxHeartbeats 4000000 in
theorem wX0_boughtBy {E : WE} {V : VT} {A : Nat → Prop} {H0 : Heap} {M : Mem} {j : Nat} (hj : j < 11) (Cx : CX E RX0 cX0_boughtBy 4 0 0) {r : Int32} {B : Blk} (hret : RetI E V A H0 cX0_boughtBy .int r (jb M j B)) {H : Heap} {locs : List Loc} {ls : Array Slot} {l1 : Int32} (hW : Wd V A H0 (jb M j B) (eS E) H locs) (hl : lv_has ls 4 [(0, .ref (vA V j 2)), (1, .int l1)]) (hF : FX0_boughtBy B l1 = some r) : Wq E H locs 0 ls [] := by
  unfold FX0_boughtBy at hF
  refine q_iconst (v := (0 : Int32)) Cx dX0_boughtBy_0 (by decide) ?_
  refine q_istore_n (lv' := [(2, .int (0 : Int32)), (0, .ref (vA V j 2)), (1, .int l1)]) Cx dX0_boughtBy_1 rfl hl (by decide) rfl (fun ls hl => ?_)
  refine q_iconst (v := (0 : Int32)) Cx dX0_boughtBy_2 (by decide) ?_
  refine q_istore_n (lv' := [(3, .int (0 : Int32)), (2, .int (0 : Int32)), (0, .ref (vA V j 2)), (1, .int l1)]) Cx dX0_boughtBy_3 rfl hl (by decide) rfl (fun ls hl => ?_)
  exact wX0_boughtBy_4 hj Cx hret fu hW (lv_sub hl [2, 3, 1, 0] rfl) hF
set_option maxRecDepth 100000 in
theorem kX0_boughtBy {l : Launch} {V : VT} {M : Mem} {j : Nat} (hj : j < 11) {B : Blk} {l1 : Int32} {r : Int32} (hF : FX0_boughtBy B l1 = some r) : MetI l V yX0_boughtBy cX0_boughtBy 4 .int ({ frames := 0, cells := 0, slots := 0, locals := 0 } : Room) [.ref (vA V j 2), .int l1] r (jb M j B) (jb M j B) := metI_of (by decide) (Nat.le_of_ble_eq_true rfl) (fun E H0 _ Cx hret H locs ls hW hl => wX0_boughtBy hj Cx hret hW hl hF)
theorem dX0_tell_0 : decode cX0_tell 0 = .ok (.aload_n 0, 1) := by decide +kernel
theorem dX0_tell_1 : decode cX0_tell 1 = .ok (.iload_n 1, 1) := by decide +kernel
theorem dX0_tell_2 : decode cX0_tell 2 = .ok (.invokevirtual 34, 3) := by decide +kernel
theorem dX0_tell_5 : decode cX0_tell 5 = .ok (.ifCond .ne 5, 3) := by decide +kernel
theorem dX0_tell_8 : decode cX0_tell 8 = .ok (.iconst (-1), 1) := by decide +kernel
theorem dX0_tell_9 : decode cX0_tell 9 = .ok (.ireturn, 1) := by decide +kernel
theorem dX0_tell_10 : decode cX0_tell 10 = .ok (.iload_n 2, 1) := by decide +kernel
theorem dX0_tell_11 : decode cX0_tell 11 = .ok (.tableswitch 57 0 3 #[29, 36, 43, 50], 29) := by decide +kernel
theorem dX0_tell_40 : decode cX0_tell 40 = .ok (.aload_n 0, 1) := by decide +kernel
theorem dX0_tell_41 : decode cX0_tell 41 = .ok (.getfield 9, 3) := by decide +kernel
theorem dX0_tell_44 : decode cX0_tell 44 = .ok (.iload_n 1, 1) := by decide +kernel
theorem dX0_tell_45 : decode cX0_tell 45 = .ok (.iaload, 1) := by decide +kernel
theorem dX0_tell_46 : decode cX0_tell 46 = .ok (.ireturn, 1) := by decide +kernel
theorem dX0_tell_47 : decode cX0_tell 47 = .ok (.aload_n 0, 1) := by decide +kernel
theorem dX0_tell_48 : decode cX0_tell 48 = .ok (.getfield 15, 3) := by decide +kernel
theorem dX0_tell_51 : decode cX0_tell 51 = .ok (.iload_n 1, 1) := by decide +kernel
theorem dX0_tell_52 : decode cX0_tell 52 = .ok (.iaload, 1) := by decide +kernel
theorem dX0_tell_53 : decode cX0_tell 53 = .ok (.ireturn, 1) := by decide +kernel
theorem dX0_tell_54 : decode cX0_tell 54 = .ok (.aload_n 0, 1) := by decide +kernel
theorem dX0_tell_55 : decode cX0_tell 55 = .ok (.getfield 18, 3) := by decide +kernel
theorem dX0_tell_58 : decode cX0_tell 58 = .ok (.iload_n 1, 1) := by decide +kernel
theorem dX0_tell_59 : decode cX0_tell 59 = .ok (.iaload, 1) := by decide +kernel
theorem dX0_tell_60 : decode cX0_tell 60 = .ok (.ireturn, 1) := by decide +kernel
theorem dX0_tell_61 : decode cX0_tell 61 = .ok (.aload_n 0, 1) := by decide +kernel
theorem dX0_tell_62 : decode cX0_tell 62 = .ok (.getfield 21, 3) := by decide +kernel
theorem dX0_tell_65 : decode cX0_tell 65 = .ok (.iload_n 1, 1) := by decide +kernel
theorem dX0_tell_66 : decode cX0_tell 66 = .ok (.iaload, 1) := by decide +kernel
theorem dX0_tell_67 : decode cX0_tell 67 = .ok (.ireturn, 1) := by decide +kernel
theorem dX0_tell_68 : decode cX0_tell 68 = .ok (.bipush (-2), 2) := by decide +kernel
theorem dX0_tell_70 : decode cX0_tell 70 = .ok (.ireturn, 1) := by decide +kernel
theorem okX0_tell : CalOK yX0_tell cX0_tell 3 (some .int) 2 := ⟨wd_19, wd_559, by decide +kernel⟩
theorem ovX0_tell : VirOK yX0_tell := ⟨wd_557, wd_558⟩
def FX0_tell (B : Blk) (l1 : Int32) (l2 : Int32) : Option Int32 :=
  c1 (FX0_has B l1) fun r1 =>
  if r1 = 0 then
    some (-1 : Int32)
  else
    if l2 = (0 : Int32) then
      ld (B 12) 40 l1 fun v5 =>
      some v5
    else
      if l2 = (1 : Int32) then
        ld (B 13) 40 l1 fun v9 =>
        some v9
      else
        if l2 = (2 : Int32) then
          ld (B 14) 40 l1 fun v13 =>
          some v13
        else
          if l2 = (3 : Int32) then
            ld (B 15) 40 l1 fun v17 =>
            some v17
          else
            some (-2 : Int32)
set_option maxRecDepth 100000 in
set_option maxHeartbeats 4000000 in
theorem wX0_tell {E : WE} {V : VT} {A : Nat → Prop} {H0 : Heap} {M : Mem} {j : Nat} (hj : j < 11) (Cx : CX E RX0 cX0_tell 3 1 21) {r : Int32} {B : Blk} (hret : RetI E V A H0 cX0_tell .int r (jb M j B)) {H : Heap} {locs : List Loc} {ls : Array Slot} {l1 : Int32} {l2 : Int32} (hW : Wd V A H0 (jb M j B) (eS E) H locs) (hl : lv_has ls 3 [(0, .ref (vA V j 2)), (1, .int l1), (2, .int l2)]) (hF : FX0_tell B l1 l2 = some r) : Wq E H locs 0 ls [] := by
  unfold FX0_tell at hF
  refine q_aload_n Cx dX0_tell_0 rfl (lv_at hl 0 rfl) ?_
  refine q_iload_n Cx dX0_tell_1 rfl (lv_at hl 1 rfl) ?_
  obtain ⟨r1, e2, hF⟩ := c1_some hF
  refine q_callI (as := [.int l1]) (rest := []) Cx (kX0_has hj e2) okX0_has ovX0_has wd_560 ⟨rfl, rfl, by decide, by decide⟩ hW (oC hj) ic0 rfl hl.1 (Nat.le_of_ble_eq_true rfl) rfl dX0_tell_2 (fun H locs hW => ?_)
  refine q_if_ne (tgt := 10) Cx dX0_tell_5 (by decide) (fun c3 => ?_) (fun c3 => ?_)
  · have hF := (if_neg c3).symm.trans hF
    refine q_iload_n Cx dX0_tell_10 rfl (lv_at hl 2 rfl) ?_
    by_cases c4 : l2 = (0 : Int32)
    · have hF := (if_pos c4).symm.trans hF
      refine q_tableIn (tgt := 40) Cx dX0_tell_11 (by rw [c4]; decide) (by rw [c4]; decide) (ho := by rw [c4]; rfl) (by decide) ?_
      refine q_aload_n Cx dX0_tell_40 rfl (lv_at hl 0 rfl) ?_
      refine q_get (v := .ref (vA V j 12)) Cx hW (oC hj) ic0 1 (by decide) rfl wd_94 dX0_tell_41 ?_
      refine q_iload_n Cx dX0_tell_44 rfl (lv_at hl 1 rfl) ?_
      obtain ⟨h6, v5, e7, hF⟩ := ld_some hF
      refine qb_iald Cx hW (ai_12 hj) h6 e7 dX0_tell_45 ?_
      obtain rfl := Option.some.inj hF
      exact hret _ _ _ _ dX0_tell_46 (nI32 _) hW
    · have hF := (if_neg c4).symm.trans hF
      by_cases c8 : l2 = (1 : Int32)
      · have hF := (if_pos c8).symm.trans hF
        refine q_tableIn (tgt := 47) Cx dX0_tell_11 (by rw [c8]; decide) (by rw [c8]; decide) (ho := by rw [c8]; rfl) (by decide) ?_
        refine q_aload_n Cx dX0_tell_47 rfl (lv_at hl 0 rfl) ?_
        refine q_get (v := .ref (vA V j 13)) Cx hW (oC hj) ic0 2 (by decide) rfl wd_96 dX0_tell_48 ?_
        refine q_iload_n Cx dX0_tell_51 rfl (lv_at hl 1 rfl) ?_
        obtain ⟨h10, v9, e11, hF⟩ := ld_some hF
        refine qb_iald Cx hW (ai_13 hj) h10 e11 dX0_tell_52 ?_
        obtain rfl := Option.some.inj hF
        exact hret _ _ _ _ dX0_tell_53 (nI32 _) hW
      · have hF := (if_neg c8).symm.trans hF
        by_cases c12 : l2 = (2 : Int32)
        · have hF := (if_pos c12).symm.trans hF
          refine q_tableIn (tgt := 54) Cx dX0_tell_11 (by rw [c12]; decide) (by rw [c12]; decide) (ho := by rw [c12]; rfl) (by decide) ?_
          refine q_aload_n Cx dX0_tell_54 rfl (lv_at hl 0 rfl) ?_
          refine q_get (v := .ref (vA V j 14)) Cx hW (oC hj) ic0 3 (by decide) rfl wd_98 dX0_tell_55 ?_
          refine q_iload_n Cx dX0_tell_58 rfl (lv_at hl 1 rfl) ?_
          obtain ⟨h14, v13, e15, hF⟩ := ld_some hF
          refine qb_iald Cx hW (ai_14 hj) h14 e15 dX0_tell_59 ?_
          obtain rfl := Option.some.inj hF
          exact hret _ _ _ _ dX0_tell_60 (nI32 _) hW
        · have hF := (if_neg c12).symm.trans hF
          by_cases c16 : l2 = (3 : Int32)
          · have hF := (if_pos c16).symm.trans hF
            refine q_tableIn (tgt := 61) Cx dX0_tell_11 (by rw [c16]; decide) (by rw [c16]; decide) (ho := by rw [c16]; rfl) (by decide) ?_
            refine q_aload_n Cx dX0_tell_61 rfl (lv_at hl 0 rfl) ?_
            refine q_get (v := .ref (vA V j 15)) Cx hW (oC hj) ic0 4 (by decide) rfl wd_100 dX0_tell_62 ?_
            refine q_iload_n Cx dX0_tell_65 rfl (lv_at hl 1 rfl) ?_
            obtain ⟨h18, v17, e19, hF⟩ := ld_some hF
            refine qb_iald Cx hW (ai_15 hj) h18 e19 dX0_tell_66 ?_
            obtain rfl := Option.some.inj hF
            exact hret _ _ _ _ dX0_tell_67 (nI32 _) hW
          · have hF := (if_neg c16).symm.trans hF
            refine q_tableOut (tgt := 68) Cx dX0_tell_11 (tbl_out (tbl_cons (k := (0 : Int32)) (l1 := 1) (by decide) (by decide) c4 (tbl_cons (k := (1 : Int32)) (l1 := 2) (by decide) (by decide) c8 (tbl_cons (k := (2 : Int32)) (l1 := 3) (by decide) (by decide) c12 (tbl_cons (k := (3 : Int32)) (l1 := 4) (by decide) (by decide) c16 (tbl_nil (by decide))))))) (by decide) ?_
            refine q_bipush (v := (-2 : Int32)) Cx dX0_tell_68 (by decide) ?_
            obtain rfl := Option.some.inj hF
            exact hret _ _ _ _ dX0_tell_70 (nI32 _) hW
  · have hF := (if_pos c3).symm.trans hF
    refine q_iconst (v := (-1 : Int32)) Cx dX0_tell_8 (by decide) ?_
    obtain rfl := Option.some.inj hF
    exact hret _ _ _ _ dX0_tell_9 (nI32 _) hW
set_option maxRecDepth 100000 in
theorem kX0_tell {l : Launch} {V : VT} {M : Mem} {j : Nat} (hj : j < 11) {B : Blk} {l1 : Int32} {l2 : Int32} {r : Int32} (hF : FX0_tell B l1 l2 = some r) : MetI l V yX0_tell cX0_tell 3 .int ({ frames := 1, cells := 0, slots := 0, locals := 21 } : Room) [.ref (vA V j 2), .int l1, .int l2] r (jb M j B) (jb M j B) := metI_of (by decide) (Nat.le_of_ble_eq_true rfl) (fun E H0 _ Cx hret H locs ls hW hl => wX0_tell hj Cx hret hW hl hF)
theorem dX0_allHours_0 : decode cX0_allHours 0 = .ok (.iconst 0, 1) := by decide +kernel
theorem dX0_allHours_1 : decode cX0_allHours 1 = .ok (.istore_n 1, 1) := by decide +kernel
theorem dX0_allHours_2 : decode cX0_allHours 2 = .ok (.iconst 0, 1) := by decide +kernel
theorem dX0_allHours_3 : decode cX0_allHours 3 = .ok (.istore_n 2, 1) := by decide +kernel
theorem dX0_allHours_4 : decode cX0_allHours 4 = .ok (.iload_n 2, 1) := by decide +kernel
theorem dX0_allHours_5 : decode cX0_allHours 5 = .ok (.aload_n 0, 1) := by decide +kernel
theorem dX0_allHours_6 : decode cX0_allHours 6 = .ok (.getfield 24, 3) := by decide +kernel
theorem dX0_allHours_9 : decode cX0_allHours 9 = .ok (.if_icmp .ge 18, 3) := by decide +kernel
theorem dX0_allHours_12 : decode cX0_allHours 12 = .ok (.iload_n 1, 1) := by decide +kernel
theorem dX0_allHours_13 : decode cX0_allHours 13 = .ok (.aload_n 0, 1) := by decide +kernel
theorem dX0_allHours_14 : decode cX0_allHours 14 = .ok (.getfield 18, 3) := by decide +kernel
theorem dX0_allHours_17 : decode cX0_allHours 17 = .ok (.iload_n 2, 1) := by decide +kernel
theorem dX0_allHours_18 : decode cX0_allHours 18 = .ok (.iaload, 1) := by decide +kernel
theorem dX0_allHours_19 : decode cX0_allHours 19 = .ok (.iadd, 1) := by decide +kernel
theorem dX0_allHours_20 : decode cX0_allHours 20 = .ok (.istore_n 1, 1) := by decide +kernel
theorem dX0_allHours_21 : decode cX0_allHours 21 = .ok (.iinc 2 1, 3) := by decide +kernel
theorem dX0_allHours_24 : decode cX0_allHours 24 = .ok (.goto (-20), 3) := by decide +kernel
theorem dX0_allHours_27 : decode cX0_allHours 27 = .ok (.iload_n 1, 1) := by decide +kernel
theorem dX0_allHours_28 : decode cX0_allHours 28 = .ok (.ireturn, 1) := by decide +kernel
theorem okX0_allHours : CalOK yX0_allHours cX0_allHours 3 (some .int) 0 := ⟨wd_19, wd_441, by decide +kernel⟩
theorem ovX0_allHours : VirOK yX0_allHours := ⟨wd_439, wd_440⟩
def FX0_allHours_4s (B : Blk) (k4 : Int32 → Int32 → Option Int32) (l1 : Int32) (l2 : Int32) : Option Int32 :=
  if ((B 2) 0) ≤ l2 then
    some l1
  else
    ld (B 14) 40 l2 fun v2 =>
    lt1 (l1 + v2) fun x5 =>
    lt1 (l2 + (1 : Int32)) fun x7 =>
    k4 x5 x7
set_option maxRecDepth 100000 in
set_option maxHeartbeats 4000000 in
theorem wX0_allHours_4s {E : WE} {V : VT} {A : Nat → Prop} {H0 : Heap} {M : Mem} {j : Nat} (hj : j < 11) (Cx : CX E RX0 cX0_allHours 3 0 0) {r : Int32} {B : Blk} (hret : RetI E V A H0 cX0_allHours .int r (jb M j B)) {k4 : Int32 → Int32 → Option Int32} (hk4 : ∀ {H : Heap} {locs : List Loc} {ls : Array Slot} {l1 : Int32} {l2 : Int32}, Wd V A H0 (jb M j B) (eS E) H locs → lv_has ls 3 [(0, .ref (vA V j 2)), (1, .int l1), (2, .int l2)] → k4 l1 l2 = some r → Wq E H locs 4 ls []) {H : Heap} {locs : List Loc} {ls : Array Slot} {l1 : Int32} {l2 : Int32} (hW : Wd V A H0 (jb M j B) (eS E) H locs) (hl : lv_has ls 3 [(0, .ref (vA V j 2)), (1, .int l1), (2, .int l2)]) (hF : FX0_allHours_4s B k4 l1 l2 = some r) : Wq E H locs 4 ls [] := by
  unfold FX0_allHours_4s at hF
  refine q_iload_n Cx dX0_allHours_4 rfl (lv_at hl 2 rfl) ?_
  refine q_aload_n Cx dX0_allHours_5 rfl (lv_at hl 0 rfl) ?_
  refine qb_get (v := .int ((B 2) 0)) Cx hW (oC hj) ic0 0 (by decide) rfl wd_91 dX0_allHours_6 ?_
  refine q_icmp_ge (tgt := 27) Cx dX0_allHours_9 (by decide) (fun c1 => ?_) (fun c1 => ?_)
  · have hF := (if_pos c1).symm.trans hF
    refine q_iload_n Cx dX0_allHours_27 rfl (lv_at hl 1 rfl) ?_
    obtain rfl := Option.some.inj hF
    exact hret _ _ _ _ dX0_allHours_28 (nI32 _) hW
  · have hF := (if_neg c1).symm.trans hF
    refine q_iload_n Cx dX0_allHours_12 rfl (lv_at hl 1 rfl) ?_
    refine q_aload_n Cx dX0_allHours_13 rfl (lv_at hl 0 rfl) ?_
    refine q_get (v := .ref (vA V j 14)) Cx hW (oC hj) ic0 3 (by decide) rfl wd_98 dX0_allHours_14 ?_
    refine q_iload_n Cx dX0_allHours_17 rfl (lv_at hl 2 rfl) ?_
    obtain ⟨h3, v2, e4, hF⟩ := ld_some hF
    refine qb_iald Cx hW (ai_14 hj) h3 e4 dX0_allHours_18 ?_
    refine q_iadd Cx dX0_allHours_19 ?_
    obtain ⟨x5, e6, hF⟩ := lt1_some hF
    refine q_topi e6 ?_
    refine q_istore_n (lv' := [(1, .int x5), (0, .ref (vA V j 2)), (2, .int l2)]) Cx dX0_allHours_20 rfl hl (by decide) rfl (fun ls hl => ?_)
    obtain ⟨x7, e8, hF⟩ := lt1_some hF
    refine q_iinc (k := 2) (v := x7) (lv' := [(2, .int x7), (1, .int x5), (0, .ref (vA V j 2))]) Cx dX0_allHours_21 hl rfl e8.symm (by decide) rfl (fun ls hl => ?_)
    refine q_goto (tgt := 4) Cx dX0_allHours_24 (by decide) ?_
    exact hk4 hW (lv_sub hl [2, 1, 0] rfl) hF
def FX0_allHours_4 (B : Blk) : Nat → Int32 → Int32 → Option Int32
  | 0 => fun _ _ => none
  | n + 1 => FX0_allHours_4s B (FX0_allHours_4 B n)
set_option maxRecDepth 100000 in
theorem wX0_allHours_4 {E : WE} {V : VT} {A : Nat → Prop} {H0 : Heap} {M : Mem} {j : Nat} (hj : j < 11) (Cx : CX E RX0 cX0_allHours 3 0 0) {r : Int32} {B : Blk} (hret : RetI E V A H0 cX0_allHours .int r (jb M j B)) : ∀ (n : Nat) {H : Heap} {locs : List Loc} {ls : Array Slot} {l1 : Int32} {l2 : Int32}, Wd V A H0 (jb M j B) (eS E) H locs → lv_has ls 3 [(0, .ref (vA V j 2)), (1, .int l1), (2, .int l2)] → FX0_allHours_4 B n l1 l2 = some r → Wq E H locs 4 ls [] := by
  intro n
  induction n with
  | zero => intro _ _ _ _ _ hW hl hF; cases hF
  | succ n ih => intro _ _ _ _ _ hW hl hF; exact wX0_allHours_4s hj Cx hret ih hW hl hF
def FX0_allHours (B : Blk) : Option Int32 :=
  FX0_allHours_4 B fu (0 : Int32) (0 : Int32)
set_option maxRecDepth 100000 in
set_option maxHeartbeats 4000000 in
theorem wX0_allHours {E : WE} {V : VT} {A : Nat → Prop} {H0 : Heap} {M : Mem} {j : Nat} (hj : j < 11) (Cx : CX E RX0 cX0_allHours 3 0 0) {r : Int32} {B : Blk} (hret : RetI E V A H0 cX0_allHours .int r (jb M j B)) {H : Heap} {locs : List Loc} {ls : Array Slot} (hW : Wd V A H0 (jb M j B) (eS E) H locs) (hl : lv_has ls 3 [(0, .ref (vA V j 2))]) (hF : FX0_allHours B = some r) : Wq E H locs 0 ls [] := by
  unfold FX0_allHours at hF
  refine q_iconst (v := (0 : Int32)) Cx dX0_allHours_0 (by decide) ?_
  refine q_istore_n (lv' := [(1, .int (0 : Int32)), (0, .ref (vA V j 2))]) Cx dX0_allHours_1 rfl hl (by decide) rfl (fun ls hl => ?_)
  refine q_iconst (v := (0 : Int32)) Cx dX0_allHours_2 (by decide) ?_
  refine q_istore_n (lv' := [(2, .int (0 : Int32)), (1, .int (0 : Int32)), (0, .ref (vA V j 2))]) Cx dX0_allHours_3 rfl hl (by decide) rfl (fun ls hl => ?_)
  exact wX0_allHours_4 hj Cx hret fu hW (lv_sub hl [2, 1, 0] rfl) hF
set_option maxRecDepth 100000 in
theorem kX0_allHours {l : Launch} {V : VT} {M : Mem} {j : Nat} (hj : j < 11) {B : Blk} {r : Int32} (hF : FX0_allHours B = some r) : MetI l V yX0_allHours cX0_allHours 3 .int ({ frames := 0, cells := 0, slots := 0, locals := 0 } : Room) [.ref (vA V j 2)] r (jb M j B) (jb M j B) := metI_of (by decide) (Nat.le_of_ble_eq_true rfl) (fun E H0 _ Cx hret H locs ls hW hl => wX0_allHours hj Cx hret hW hl hF)
theorem dX0_sellersSince_0 : decode cX0_sellersSince 0 = .ok (.iconst 0, 1) := by decide +kernel
theorem dX0_sellersSince_1 : decode cX0_sellersSince 1 = .ok (.istore_n 2, 1) := by decide +kernel
theorem dX0_sellersSince_2 : decode cX0_sellersSince 2 = .ok (.iload_n 1, 1) := by decide +kernel
theorem dX0_sellersSince_3 : decode cX0_sellersSince 3 = .ok (.iconst 0, 1) := by decide +kernel
theorem dX0_sellersSince_4 : decode cX0_sellersSince 4 = .ok (.invokestatic 42, 3) := by decide +kernel
theorem dX0_sellersSince_7 : decode cX0_sellersSince 7 = .ok (.istore_n 3, 1) := by decide +kernel
theorem dX0_sellersSince_8 : decode cX0_sellersSince 8 = .ok (.iload_n 3, 1) := by decide +kernel
theorem dX0_sellersSince_9 : decode cX0_sellersSince 9 = .ok (.aload_n 0, 1) := by decide +kernel
theorem dX0_sellersSince_10 : decode cX0_sellersSince 10 = .ok (.getfield 24, 3) := by decide +kernel
theorem dX0_sellersSince_13 : decode cX0_sellersSince 13 = .ok (.if_icmp .ge 20, 3) := by decide +kernel
theorem dX0_sellersSince_16 : decode cX0_sellersSince 16 = .ok (.iload_n 2, 1) := by decide +kernel
theorem dX0_sellersSince_17 : decode cX0_sellersSince 17 = .ok (.iconst 1, 1) := by decide +kernel
theorem dX0_sellersSince_18 : decode cX0_sellersSince 18 = .ok (.aload_n 0, 1) := by decide +kernel
theorem dX0_sellersSince_19 : decode cX0_sellersSince 19 = .ok (.getfield 9, 3) := by decide +kernel
theorem dX0_sellersSince_22 : decode cX0_sellersSince 22 = .ok (.iload_n 3, 1) := by decide +kernel
theorem dX0_sellersSince_23 : decode cX0_sellersSince 23 = .ok (.iaload, 1) := by decide +kernel
theorem dX0_sellersSince_24 : decode cX0_sellersSince 24 = .ok (.ishl, 1) := by decide +kernel
theorem dX0_sellersSince_25 : decode cX0_sellersSince 25 = .ok (.ior, 1) := by decide +kernel
theorem dX0_sellersSince_26 : decode cX0_sellersSince 26 = .ok (.istore_n 2, 1) := by decide +kernel
theorem dX0_sellersSince_27 : decode cX0_sellersSince 27 = .ok (.iinc 3 1, 3) := by decide +kernel
theorem dX0_sellersSince_30 : decode cX0_sellersSince 30 = .ok (.goto (-22), 3) := by decide +kernel
theorem dX0_sellersSince_33 : decode cX0_sellersSince 33 = .ok (.iload_n 2, 1) := by decide +kernel
theorem dX0_sellersSince_34 : decode cX0_sellersSince 34 = .ok (.ireturn, 1) := by decide +kernel
theorem okX0_sellersSince : CalOK yX0_sellersSince cX0_sellersSince 4 (some .int) 1 := ⟨wd_19, wd_537, by decide +kernel⟩
theorem ovX0_sellersSince : VirOK yX0_sellersSince := ⟨wd_535, wd_536⟩
def FX0_sellersSince_8s (B : Blk) (k8 : Int32 → Int32 → Option Int32) (l2 : Int32) (l3 : Int32) : Option Int32 :=
  if ((B 2) 0) ≤ l3 then
    some l2
  else
    ld (B 12) 40 l3 fun v4 =>
    lt1 (l2 ||| ((1 : Int32) <<< (v4 &&& 31))) fun x7 =>
    lt1 (l3 + (1 : Int32)) fun x9 =>
    k8 x7 x9
set_option maxRecDepth 100000 in
set_option maxHeartbeats 4000000 in
theorem wX0_sellersSince_8s {E : WE} {V : VT} {A : Nat → Prop} {H0 : Heap} {M : Mem} {j : Nat} (hj : j < 11) (Cx : CX E RX0 cX0_sellersSince 4 1 40) {r : Int32} {B : Blk} (hret : RetI E V A H0 cX0_sellersSince .int r (jb M j B)) {k8 : Int32 → Int32 → Option Int32} (hk8 : ∀ {H : Heap} {locs : List Loc} {ls : Array Slot} {l2 : Int32} {l3 : Int32}, Wd V A H0 (jb M j B) (eS E) H locs → lv_has ls 4 [(0, .ref (vA V j 2)), (2, .int l2), (3, .int l3)] → k8 l2 l3 = some r → Wq E H locs 8 ls []) {H : Heap} {locs : List Loc} {ls : Array Slot} {l2 : Int32} {l3 : Int32} (hW : Wd V A H0 (jb M j B) (eS E) H locs) (hl : lv_has ls 4 [(0, .ref (vA V j 2)), (2, .int l2), (3, .int l3)]) (hF : FX0_sellersSince_8s B k8 l2 l3 = some r) : Wq E H locs 8 ls [] := by
  unfold FX0_sellersSince_8s at hF
  refine q_iload_n Cx dX0_sellersSince_8 rfl (lv_at hl 2 rfl) ?_
  refine q_aload_n Cx dX0_sellersSince_9 rfl (lv_at hl 0 rfl) ?_
  refine qb_get (v := .int ((B 2) 0)) Cx hW (oC hj) ic0 0 (by decide) rfl wd_91 dX0_sellersSince_10 ?_
  refine q_icmp_ge (tgt := 33) Cx dX0_sellersSince_13 (by decide) (fun c3 => ?_) (fun c3 => ?_)
  · have hF := (if_pos c3).symm.trans hF
    refine q_iload_n Cx dX0_sellersSince_33 rfl (lv_at hl 1 rfl) ?_
    obtain rfl := Option.some.inj hF
    exact hret _ _ _ _ dX0_sellersSince_34 (nI32 _) hW
  · have hF := (if_neg c3).symm.trans hF
    refine q_iload_n Cx dX0_sellersSince_16 rfl (lv_at hl 1 rfl) ?_
    refine q_iconst (v := (1 : Int32)) Cx dX0_sellersSince_17 (by decide) ?_
    refine q_aload_n Cx dX0_sellersSince_18 rfl (lv_at hl 0 rfl) ?_
    refine q_get (v := .ref (vA V j 12)) Cx hW (oC hj) ic0 1 (by decide) rfl wd_94 dX0_sellersSince_19 ?_
    refine q_iload_n Cx dX0_sellersSince_22 rfl (lv_at hl 2 rfl) ?_
    obtain ⟨h5, v4, e6, hF⟩ := ld_some hF
    refine qb_iald Cx hW (ai_12 hj) h5 e6 dX0_sellersSince_23 ?_
    refine q_ishl Cx dX0_sellersSince_24 ?_
    refine q_ior Cx dX0_sellersSince_25 ?_
    obtain ⟨x7, e8, hF⟩ := lt1_some hF
    refine q_topi e8 ?_
    refine q_istore_n (lv' := [(2, .int x7), (0, .ref (vA V j 2)), (3, .int l3)]) Cx dX0_sellersSince_26 rfl hl (by decide) rfl (fun ls hl => ?_)
    obtain ⟨x9, e10, hF⟩ := lt1_some hF
    refine q_iinc (k := 2) (v := x9) (lv' := [(3, .int x9), (2, .int x7), (0, .ref (vA V j 2))]) Cx dX0_sellersSince_27 hl rfl e10.symm (by decide) rfl (fun ls hl => ?_)
    refine q_goto (tgt := 8) Cx dX0_sellersSince_30 (by decide) ?_
    exact hk8 hW (lv_sub hl [2, 1, 0] rfl) hF
def FX0_sellersSince_8 (B : Blk) : Nat → Int32 → Int32 → Option Int32
  | 0 => fun _ _ => none
  | n + 1 => FX0_sellersSince_8s B (FX0_sellersSince_8 B n)
set_option maxRecDepth 100000 in
theorem wX0_sellersSince_8 {E : WE} {V : VT} {A : Nat → Prop} {H0 : Heap} {M : Mem} {j : Nat} (hj : j < 11) (Cx : CX E RX0 cX0_sellersSince 4 1 40) {r : Int32} {B : Blk} (hret : RetI E V A H0 cX0_sellersSince .int r (jb M j B)) : ∀ (n : Nat) {H : Heap} {locs : List Loc} {ls : Array Slot} {l2 : Int32} {l3 : Int32}, Wd V A H0 (jb M j B) (eS E) H locs → lv_has ls 4 [(0, .ref (vA V j 2)), (2, .int l2), (3, .int l3)] → FX0_sellersSince_8 B n l2 l3 = some r → Wq E H locs 8 ls [] := by
  intro n
  induction n with
  | zero => intro _ _ _ _ _ hW hl hF; cases hF
  | succ n ih => intro _ _ _ _ _ hW hl hF; exact wX0_sellersSince_8s hj Cx hret ih hW hl hF
def FX0_sellersSince (B : Blk) (l1 : Int32) : Option Int32 :=
  lt1 (if l1 < (0 : Int32) then (0 : Int32) else l1) fun x1 =>
  FX0_sellersSince_8 B fu (0 : Int32) x1
set_option maxRecDepth 100000 in
set_option maxHeartbeats 4000000 in
theorem wX0_sellersSince {E : WE} {V : VT} {A : Nat → Prop} {H0 : Heap} {M : Mem} {j : Nat} (hj : j < 11) (Cx : CX E RX0 cX0_sellersSince 4 1 40) {r : Int32} {B : Blk} (hret : RetI E V A H0 cX0_sellersSince .int r (jb M j B)) {H : Heap} {locs : List Loc} {ls : Array Slot} {l1 : Int32} (hW : Wd V A H0 (jb M j B) (eS E) H locs) (hl : lv_has ls 4 [(0, .ref (vA V j 2)), (1, .int l1)]) (hF : FX0_sellersSince B l1 = some r) : Wq E H locs 0 ls [] := by
  unfold FX0_sellersSince at hF
  refine q_iconst (v := (0 : Int32)) Cx dX0_sellersSince_0 (by decide) ?_
  refine q_istore_n (lv' := [(2, .int (0 : Int32)), (0, .ref (vA V j 2)), (1, .int l1)]) Cx dX0_sellersSince_1 rfl hl (by decide) rfl (fun ls hl => ?_)
  refine q_iload_n Cx dX0_sellersSince_2 rfl (lv_at hl 2 rfl) ?_
  refine q_iconst (v := (0 : Int32)) Cx dX0_sellersSince_3 (by decide) ?_
  obtain ⟨x1, e2, hF⟩ := lt1_some hF
  refine q_max Cx wd_538 wd_271 wd_23 wd_272 hl.1 (by decide) (Nat.le_of_ble_eq_true rfl) e2.symm dX0_sellersSince_4 ?_
  refine q_istore_n (lv' := [(3, .int x1), (2, .int (0 : Int32)), (0, .ref (vA V j 2)), (1, .int l1)]) Cx dX0_sellersSince_7 rfl hl (by decide) rfl (fun ls hl => ?_)
  exact wX0_sellersSince_8 hj Cx hret fu hW (lv_sub hl [2, 1, 0] rfl) hF
set_option maxRecDepth 100000 in
theorem kX0_sellersSince {l : Launch} {V : VT} {M : Mem} {j : Nat} (hj : j < 11) {B : Blk} {l1 : Int32} {r : Int32} (hF : FX0_sellersSince B l1 = some r) : MetI l V yX0_sellersSince cX0_sellersSince 4 .int ({ frames := 1, cells := 0, slots := 0, locals := 40 } : Room) [.ref (vA V j 2), .int l1] r (jb M j B) (jb M j B) := metI_of (by decide) (Nat.le_of_ble_eq_true rfl) (fun E H0 _ Cx hret H locs ls hW hl => wX0_sellersSince hj Cx hret hW hl hF)
