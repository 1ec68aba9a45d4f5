theorem dX1_prepare_0 : decode cX1_prepare 0 = .ok (.aload_n 0, 1) := by decide +kernel
theorem dX1_prepare_1 : decode cX1_prepare 1 = .ok (.getfield 11, 3) := by decide +kernel
theorem dX1_prepare_4 : decode cX1_prepare 4 = .ok (.aload_n 0, 1) := by decide +kernel
theorem dX1_prepare_5 : decode cX1_prepare 5 = .ok (.getfield 18, 3) := by decide +kernel
theorem dX1_prepare_8 : decode cX1_prepare 8 = .ok (.aload_n 0, 1) := by decide +kernel
theorem dX1_prepare_9 : decode cX1_prepare 9 = .ok (.getfield 22, 3) := by decide +kernel
theorem dX1_prepare_12 : decode cX1_prepare 12 = .ok (.iadd, 1) := by decide +kernel
theorem dX1_prepare_13 : decode cX1_prepare 13 = .ok (.bipush 7, 2) := by decide +kernel
theorem dX1_prepare_15 : decode cX1_prepare 15 = .ok (.irem, 1) := by decide +kernel
theorem dX1_prepare_16 : decode cX1_prepare 16 = .ok (.aaload, 1) := by decide +kernel
theorem dX1_prepare_17 : decode cX1_prepare 17 = .ok (.astore_n 2, 1) := by decide +kernel
theorem dX1_prepare_18 : decode cX1_prepare 18 = .ok (.aload_n 2, 1) := by decide +kernel
theorem dX1_prepare_19 : decode cX1_prepare 19 = .ok (.ifnull 8, 3) := by decide +kernel
theorem dX1_prepare_22 : decode cX1_prepare 22 = .ok (.aload_n 2, 1) := by decide +kernel
theorem dX1_prepare_23 : decode cX1_prepare 23 = .ok (.aload_n 1, 1) := by decide +kernel
theorem dX1_prepare_24 : decode cX1_prepare 24 = .ok (.invokevirtual 25, 3) := by decide +kernel
theorem dX1_prepare_27 : decode cX1_prepare 27 = .ok (.return_, 1) := by decide +kernel
theorem okX1_prepare : CalOK yX1_prepare cX1_prepare 3 (none) 1 := ⟨wd_20, wd_215, by decide +kernel⟩
theorem ovX1_prepare : VirOK yX1_prepare := ⟨wd_213, wd_214⟩
def FX1_prepare (M : Mem) : Option Mem :=
  gi ((((M 11 3) 1) + ((M 11 3) 2)) - (((M 11 3) 1) + ((M 11 3) 2)) / (7 : Int32) * (7 : Int32)) 7 <|
  c1 (FX2_copyFrom (M (4 + ((((M 11 3) 1) + ((M 11 3) 2)) - (((M 11 3) 1) + ((M 11 3) 2)) / (7 : Int32) * (7 : Int32)).toNatClampNeg)) (M 0)) fun B4 =>
  lt1 (jb M (4 + ((((M 11 3) 1) + ((M 11 3) 2)) - (((M 11 3) 1) + ((M 11 3) 2)) / (7 : Int32) * (7 : Int32)).toNatClampNeg) B4) fun M5 =>
  some M5
set_option maxRecDepth 100000 in
set_option maxHeartbeats 4000000 in
theorem wX1_prepare {E : WE} {V : VT} {A : Nat → Prop} {H0 : Heap} (Cx : CX E RX1 cX1_prepare 3 3 102) {M' : Mem} (hret : RetV E V A H0 cX1_prepare M') {H : Heap} {locs : List Loc} {ls : Array Slot} {M : Mem} (hW : Wd V A H0 M (eS E) H locs) (hl : lv_has ls 3 [(0, .ref (vA V 11 3)), (1, .ref (vA V 0 0))]) (hF : FX1_prepare M = some M') : Wq E H locs 0 ls [] := by
  unfold FX1_prepare at hF
  refine q_aload_n Cx dX1_prepare_0 rfl (lv_at hl 0 rfl) ?_
  refine q_get (v := .ref (vA V 11 4)) Cx hW oH ic1 0 (by decide) rfl wd_154 dX1_prepare_1 ?_
  refine q_aload_n Cx dX1_prepare_4 rfl (lv_at hl 0 rfl) ?_
  refine q_get (v := .int ((M 11 3) 1)) Cx hW oH ic1 1 (by decide) rfl wd_155 dX1_prepare_5 ?_
  refine q_aload_n Cx dX1_prepare_8 rfl (lv_at hl 0 rfl) ?_
  refine q_get (v := .int ((M 11 3) 2)) Cx hW oH ic1 2 (by decide) rfl wd_156 dX1_prepare_9 ?_
  refine q_iadd Cx dX1_prepare_12 ?_
  refine q_bipush (v := (7 : Int32)) Cx dX1_prepare_13 (by decide) ?_
  refine q_irem Cx dX1_prepare_15 (by decide) ?_
  obtain ⟨h1, hF⟩ := gi_some hF
  refine q_aald Cx hW ar_4 h1 dX1_prepare_16 ?_
  refine q_astore_n (lv' := [(2, .ref (vA V (4 + ((((M 11 3) 1) + ((M 11 3) 2)) - (((M 11 3) 1) + ((M 11 3) 2)) / (7 : Int32) * (7 : Int32)).toNatClampNeg) 0)), (0, .ref (vA V 11 3)), (1, .ref (vA V 0 0))]) Cx dX1_prepare_17 rfl hl (by decide) rfl (fun ls hl => ?_)
  refine q_aload_n Cx dX1_prepare_18 rfl (lv_at hl 0 rfl) ?_
  refine q_ifnull Cx dX1_prepare_19 ?_
  refine q_aload_n Cx dX1_prepare_22 rfl (lv_at hl 0 rfl) ?_
  refine q_aload_n Cx dX1_prepare_23 rfl (lv_at hl 2 rfl) ?_
  obtain ⟨B4, e3, hF⟩ := c1_some hF
  obtain ⟨M5, e6, hF⟩ := lt1_some hF
  have hq : MetV (eL E) V yX2_copyFrom cX2_copyFrom 2 ({ frames := 2, cells := 0, slots := 0, locals := 81 } : Room) (.ref (vA V (4 + ((((M 11 3) 1) + ((M 11 3) 2)) - (((M 11 3) 1) + ((M 11 3) 2)) / (7 : Int32) * (7 : Int32)).toNatClampNeg) 0) :: [.ref (vA V 0 0)]) M (jb M (4 + ((((M 11 3) 1) + ((M 11 3) 2)) - (((M 11 3) 1) + ((M 11 3) 2)) / (7 : Int32) * (7 : Int32)).toNatClampNeg) B4) := (met_v (kX2_copyFrom (show (4 + ((((M 11 3) 1) + ((M 11 3) 2)) - (((M 11 3) 1) + ((M 11 3) 2)) / (7 : Int32) * (7 : Int32)).toNatClampNeg) < 11 from by have hq := vp_lt h1; omega) (by decide) (show 0 ≠ (4 + ((((M 11 3) 1) + ((M 11 3) 2)) - (((M 11 3) 1) + ((M 11 3) 2)) / (7 : Int32) * (7 : Int32)).toNatClampNeg) from by omega) rfl e3))
  rw [← e6] at hq
  refine q_callV (as := [.ref (vA V 0 0)]) (rest := []) Cx hq okX2_copyFrom ovX2_copyFrom wd_216 ⟨rfl, rfl, by decide, by decide⟩ hW (oM (show (4 + ((((M 11 3) 1) + ((M 11 3) 2)) - (((M 11 3) 1) + ((M 11 3) 2)) / (7 : Int32) * (7 : Int32)).toNatClampNeg) < 11 from by have hq := vp_lt h1; omega)) ic2 rfl hl.1 (Nat.le_of_ble_eq_true rfl) rfl dX1_prepare_24 (fun H locs hW => ?_)
  obtain rfl := Option.some.inj hF
  exact hret _ _ _ _ dX1_prepare_27 hW
set_option maxRecDepth 100000 in
theorem kX1_prepare {l : Launch} {V : VT} {M : Mem} {M' : Mem} (hF : FX1_prepare M = some M') : MetV l V yX1_prepare cX1_prepare 3 ({ frames := 3, cells := 0, slots := 0, locals := 102 } : Room) [.ref (vA V 11 3), .ref (vA V 0 0)] M M' := metV_of (by decide) (Nat.le_of_ble_eq_true rfl) (fun E H0 _ Cx hret H locs ls hW hl => wX1_prepare Cx hret hW hl hF)
theorem dX1_record_0 : decode cX1_record 0 = .ok (.iload_n 1, 1) := by decide +kernel
theorem dX1_record_1 : decode cX1_record 1 = .ok (.ifCond .ge 5, 3) := by decide +kernel
theorem dX1_record_4 : decode cX1_record 4 = .ok (.iload_n 1, 1) := by decide +kernel
theorem dX1_record_5 : decode cX1_record 5 = .ok (.ireturn, 1) := by decide +kernel
theorem dX1_record_6 : decode cX1_record 6 = .ok (.aload_n 0, 1) := by decide +kernel
theorem dX1_record_7 : decode cX1_record 7 = .ok (.getfield 22, 3) := by decide +kernel
theorem dX1_record_10 : decode cX1_record 10 = .ok (.bipush 6, 2) := by decide +kernel
theorem dX1_record_12 : decode cX1_record 12 = .ok (.if_icmp .ge 16, 3) := by decide +kernel
theorem dX1_record_15 : decode cX1_record 15 = .ok (.aload_n 0, 1) := by decide +kernel
theorem dX1_record_16 : decode cX1_record 16 = .ok (.dup, 1) := by decide +kernel
theorem dX1_record_17 : decode cX1_record 17 = .ok (.getfield 22, 3) := by decide +kernel
theorem dX1_record_20 : decode cX1_record 20 = .ok (.iconst 1, 1) := by decide +kernel
theorem dX1_record_21 : decode cX1_record 21 = .ok (.iadd, 1) := by decide +kernel
theorem dX1_record_22 : decode cX1_record 22 = .ok (.putfield 22, 3) := by decide +kernel
theorem dX1_record_25 : decode cX1_record 25 = .ok (.goto 16, 3) := by decide +kernel
theorem dX1_record_28 : decode cX1_record 28 = .ok (.aload_n 0, 1) := by decide +kernel
theorem dX1_record_29 : decode cX1_record 29 = .ok (.aload_n 0, 1) := by decide +kernel
theorem dX1_record_30 : decode cX1_record 30 = .ok (.getfield 18, 3) := by decide +kernel
theorem dX1_record_33 : decode cX1_record 33 = .ok (.iconst 1, 1) := by decide +kernel
theorem dX1_record_34 : decode cX1_record 34 = .ok (.iadd, 1) := by decide +kernel
theorem dX1_record_35 : decode cX1_record 35 = .ok (.bipush 7, 2) := by decide +kernel
theorem dX1_record_37 : decode cX1_record 37 = .ok (.irem, 1) := by decide +kernel
theorem dX1_record_38 : decode cX1_record 38 = .ok (.putfield 18, 3) := by decide +kernel
theorem dX1_record_41 : decode cX1_record 41 = .ok (.iload_n 1, 1) := by decide +kernel
theorem dX1_record_42 : decode cX1_record 42 = .ok (.ireturn, 1) := by decide +kernel
theorem okX1_record : CalOK yX1_record cX1_record 2 (some .int) 1 := ⟨wd_20, wd_240, by decide +kernel⟩
theorem ovX1_record : VirOK yX1_record := ⟨wd_238, wd_239⟩
def FX1_record (M : Mem) (l1 : Int32) : Option (Int32 × Mem) :=
  if 0 ≤ l1 then
    if (6 : Int32) ≤ ((M 11 3) 2) then
      lt1 (jb M 11 (bs (M 11) 3 1 ((((M 11 3) 1) + (1 : Int32)) - (((M 11 3) 1) + (1 : Int32)) / (7 : Int32) * (7 : Int32)))) fun M3 =>
      some (l1, M3)
    else
      lt1 (jb M 11 (bs (M 11) 3 2 (((M 11 3) 2) + (1 : Int32)))) fun M5 =>
      some (l1, M5)
  else
    some (l1, M)
set_option maxRecDepth 100000 in
set_option maxHeartbeats 4000000 in
theorem wX1_record {E : WE} {V : VT} {A : Nat → Prop} {H0 : Heap} (Cx : CX E RX1 cX1_record 2 0 0) {r : Int32} {M' : Mem} (hret : RetI E V A H0 cX1_record .int r M') {H : Heap} {locs : List Loc} {ls : Array Slot} {l1 : Int32} {M : Mem} (hW : Wd V A H0 M (eS E) H locs) (hl : lv_has ls 2 [(0, .ref (vA V 11 3)), (1, .int l1)]) (hF : FX1_record M l1 = some (r, M')) : Wq E H locs 0 ls [] := by
  unfold FX1_record at hF
  refine q_iload_n Cx dX1_record_0 rfl (lv_at hl 1 rfl) ?_
  refine q_if_ge (tgt := 6) Cx dX1_record_1 (by decide) (fun c1 => ?_) (fun c1 => ?_)
  · have hF := (if_pos c1).symm.trans hF
    refine q_aload_n Cx dX1_record_6 rfl (lv_at hl 0 rfl) ?_
    refine q_get (v := .int ((M 11 3) 2)) Cx hW oH ic1 2 (by decide) rfl wd_156 dX1_record_7 ?_
    refine q_bipush (v := (6 : Int32)) Cx dX1_record_10 (by decide) ?_
    refine q_icmp_ge (tgt := 28) Cx dX1_record_12 (by decide) (fun c2 => ?_) (fun c2 => ?_)
    · have hF := (if_pos c2).symm.trans hF
      refine q_aload_n Cx dX1_record_28 rfl (lv_at hl 0 rfl) ?_
      refine q_aload_n Cx dX1_record_29 rfl (lv_at hl 0 rfl) ?_
      refine q_get (v := .int ((M 11 3) 1)) Cx hW oH ic1 1 (by decide) rfl wd_155 dX1_record_30 ?_
      refine q_iconst (v := (1 : Int32)) Cx dX1_record_33 (by decide) ?_
      refine q_iadd Cx dX1_record_34 ?_
      refine q_bipush (v := (7 : Int32)) Cx dX1_record_35 (by decide) ?_
      refine q_irem Cx dX1_record_37 (by decide) ?_
      obtain ⟨M3, e4, hF⟩ := lt1_some hF
      refine qw_put Cx hW oH ic1 1 (by decide) (Nat.le_of_ble_eq_true rfl) e4 rfl rfl ⟨nI32 _, rfl⟩ wd_155 dX1_record_38 (fun H locs hW => ?_)
      refine q_iload_n Cx dX1_record_41 rfl (lv_at hl 1 rfl) ?_
      obtain ⟨rfl, rfl⟩ := Prod.mk.inj (Option.some.inj hF)
      exact hret _ _ _ _ dX1_record_42 (nI32 _) hW
    · have hF := (if_neg c2).symm.trans hF
      refine q_aload_n Cx dX1_record_15 rfl (lv_at hl 0 rfl) ?_
      refine q_dup Cx dX1_record_16 rfl ?_
      refine q_get (v := .int ((M 11 3) 2)) Cx hW oH ic1 2 (by decide) rfl wd_156 dX1_record_17 ?_
      refine q_iconst (v := (1 : Int32)) Cx dX1_record_20 (by decide) ?_
      refine q_iadd Cx dX1_record_21 ?_
      obtain ⟨M5, e6, hF⟩ := lt1_some hF
      refine qw_put Cx hW oH ic1 2 (by decide) (Nat.le_of_ble_eq_true rfl) e6 rfl rfl ⟨nI32 _, rfl⟩ wd_156 dX1_record_22 (fun H locs hW => ?_)
      refine q_goto (tgt := 41) Cx dX1_record_25 (by decide) ?_
      refine q_iload_n Cx dX1_record_41 rfl (lv_at hl 1 rfl) ?_
      obtain ⟨rfl, rfl⟩ := Prod.mk.inj (Option.some.inj hF)
      exact hret _ _ _ _ dX1_record_42 (nI32 _) hW
  · have hF := (if_neg c1).symm.trans hF
    refine q_iload_n Cx dX1_record_4 rfl (lv_at hl 1 rfl) ?_
    obtain ⟨rfl, rfl⟩ := Prod.mk.inj (Option.some.inj hF)
    exact hret _ _ _ _ dX1_record_5 (nI32 _) hW
set_option maxRecDepth 100000 in
theorem kX1_record {l : Launch} {V : VT} {M : Mem} {l1 : Int32} {r : Int32} {M' : Mem} (hF : FX1_record M l1 = some (r, M')) : MetI l V yX1_record cX1_record 2 .int ({ frames := 0, cells := 0, slots := 0, locals := 0 } : Room) [.ref (vA V 11 3), .int l1] r M M' := metI_of (by decide) (Nat.le_of_ble_eq_true rfl) (fun E H0 _ Cx hret H locs ls hW hl => wX1_record Cx hret hW hl hF)
theorem dX1_takeBack_0 : decode cX1_takeBack 0 = .ok (.aload_n 0, 1) := by decide +kernel
theorem dX1_takeBack_1 : decode cX1_takeBack 1 = .ok (.getfield 22, 3) := by decide +kernel
theorem dX1_takeBack_4 : decode cX1_takeBack 4 = .ok (.ifCond .ne 6, 3) := by decide +kernel
theorem dX1_takeBack_7 : decode cX1_takeBack 7 = .ok (.bipush (-5), 2) := by decide +kernel
theorem dX1_takeBack_9 : decode cX1_takeBack 9 = .ok (.ireturn, 1) := by decide +kernel
theorem dX1_takeBack_10 : decode cX1_takeBack 10 = .ok (.aload_n 0, 1) := by decide +kernel
theorem dX1_takeBack_11 : decode cX1_takeBack 11 = .ok (.dup, 1) := by decide +kernel
theorem dX1_takeBack_12 : decode cX1_takeBack 12 = .ok (.getfield 22, 3) := by decide +kernel
theorem dX1_takeBack_15 : decode cX1_takeBack 15 = .ok (.iconst 1, 1) := by decide +kernel
theorem dX1_takeBack_16 : decode cX1_takeBack 16 = .ok (.isub, 1) := by decide +kernel
theorem dX1_takeBack_17 : decode cX1_takeBack 17 = .ok (.putfield 22, 3) := by decide +kernel
theorem dX1_takeBack_20 : decode cX1_takeBack 20 = .ok (.aload_n 1, 1) := by decide +kernel
theorem dX1_takeBack_21 : decode cX1_takeBack 21 = .ok (.aload_n 0, 1) := by decide +kernel
theorem dX1_takeBack_22 : decode cX1_takeBack 22 = .ok (.getfield 11, 3) := by decide +kernel
theorem dX1_takeBack_25 : decode cX1_takeBack 25 = .ok (.aload_n 0, 1) := by decide +kernel
theorem dX1_takeBack_26 : decode cX1_takeBack 26 = .ok (.getfield 18, 3) := by decide +kernel
theorem dX1_takeBack_29 : decode cX1_takeBack 29 = .ok (.aload_n 0, 1) := by decide +kernel
theorem dX1_takeBack_30 : decode cX1_takeBack 30 = .ok (.getfield 22, 3) := by decide +kernel
theorem dX1_takeBack_33 : decode cX1_takeBack 33 = .ok (.iadd, 1) := by decide +kernel
theorem dX1_takeBack_34 : decode cX1_takeBack 34 = .ok (.bipush 7, 2) := by decide +kernel
theorem dX1_takeBack_36 : decode cX1_takeBack 36 = .ok (.irem, 1) := by decide +kernel
theorem dX1_takeBack_37 : decode cX1_takeBack 37 = .ok (.aaload, 1) := by decide +kernel
theorem dX1_takeBack_38 : decode cX1_takeBack 38 = .ok (.invokevirtual 25, 3) := by decide +kernel
theorem dX1_takeBack_41 : decode cX1_takeBack 41 = .ok (.aload_n 0, 1) := by decide +kernel
theorem dX1_takeBack_42 : decode cX1_takeBack 42 = .ok (.getfield 22, 3) := by decide +kernel
theorem dX1_takeBack_45 : decode cX1_takeBack 45 = .ok (.ireturn, 1) := by decide +kernel
theorem okX1_takeBack : CalOK yX1_takeBack cX1_takeBack 2 (some .int) 1 := ⟨wd_20, wd_363, by decide +kernel⟩
theorem ovX1_takeBack : VirOK yX1_takeBack := ⟨wd_361, wd_362⟩
def FX1_takeBack (M : Mem) : Option (Int32 × Mem) :=
  if ((M 11 3) 2) = 0 then
    some ((-5 : Int32), M)
  else
    lt1 (jb M 11 (bs (M 11) 3 2 (((M 11 3) 2) - (1 : Int32)))) fun M2 =>
    gi ((((M2 11 3) 1) + ((M2 11 3) 2)) - (((M2 11 3) 1) + ((M2 11 3) 2)) / (7 : Int32) * (7 : Int32)) 7 <|
    c1 (FX2_copyFrom (M2 0) (M2 (4 + ((((M2 11 3) 1) + ((M2 11 3) 2)) - (((M2 11 3) 1) + ((M2 11 3) 2)) / (7 : Int32) * (7 : Int32)).toNatClampNeg))) fun B7 =>
    lt1 (jb M2 0 B7) fun M8 =>
    some (((M8 11 3) 2), M8)
set_option maxRecDepth 100000 in
set_option maxHeartbeats 4000000 in
theorem wX1_takeBack {E : WE} {V : VT} {A : Nat → Prop} {H0 : Heap} (Cx : CX E RX1 cX1_takeBack 2 3 102) {r : Int32} {M' : Mem} (hret : RetI E V A H0 cX1_takeBack .int r M') {H : Heap} {locs : List Loc} {ls : Array Slot} {M : Mem} (hW : Wd V A H0 M (eS E) H locs) (hl : lv_has ls 2 [(0, .ref (vA V 11 3)), (1, .ref (vA V 0 0))]) (hF : FX1_takeBack M = some (r, M')) : Wq E H locs 0 ls [] := by
  unfold FX1_takeBack at hF
  refine q_aload_n Cx dX1_takeBack_0 rfl (lv_at hl 0 rfl) ?_
  refine q_get (v := .int ((M 11 3) 2)) Cx hW oH ic1 2 (by decide) rfl wd_156 dX1_takeBack_1 ?_
  refine q_if_ne (tgt := 10) Cx dX1_takeBack_4 (by decide) (fun c1 => ?_) (fun c1 => ?_)
  · have hF := (if_neg c1).symm.trans hF
    refine q_aload_n Cx dX1_takeBack_10 rfl (lv_at hl 0 rfl) ?_
    refine q_dup Cx dX1_takeBack_11 rfl ?_
    refine q_get (v := .int ((M 11 3) 2)) Cx hW oH ic1 2 (by decide) rfl wd_156 dX1_takeBack_12 ?_
    refine q_iconst (v := (1 : Int32)) Cx dX1_takeBack_15 (by decide) ?_
    refine q_isub Cx dX1_takeBack_16 ?_
    obtain ⟨M2, e3, hF⟩ := lt1_some hF
    refine qw_put Cx hW oH ic1 2 (by decide) (Nat.le_of_ble_eq_true rfl) e3 rfl rfl ⟨nI32 _, rfl⟩ wd_156 dX1_takeBack_17 (fun H locs hW => ?_)
    refine q_aload_n Cx dX1_takeBack_20 rfl (lv_at hl 1 rfl) ?_
    refine q_aload_n Cx dX1_takeBack_21 rfl (lv_at hl 0 rfl) ?_
    refine q_get (v := .ref (vA V 11 4)) Cx hW oH ic1 0 (by decide) rfl wd_154 dX1_takeBack_22 ?_
    refine q_aload_n Cx dX1_takeBack_25 rfl (lv_at hl 0 rfl) ?_
    refine q_get (v := .int ((M2 11 3) 1)) Cx hW oH ic1 1 (by decide) rfl wd_155 dX1_takeBack_26 ?_
    refine q_aload_n Cx dX1_takeBack_29 rfl (lv_at hl 0 rfl) ?_
    refine q_get (v := .int ((M2 11 3) 2)) Cx hW oH ic1 2 (by decide) rfl wd_156 dX1_takeBack_30 ?_
    refine q_iadd Cx dX1_takeBack_33 ?_
    refine q_bipush (v := (7 : Int32)) Cx dX1_takeBack_34 (by decide) ?_
    refine q_irem Cx dX1_takeBack_36 (by decide) ?_
    obtain ⟨h4, hF⟩ := gi_some hF
    refine q_aald Cx hW ar_4 h4 dX1_takeBack_37 ?_
    obtain ⟨B7, e6, hF⟩ := c1_some hF
    obtain ⟨M8, e9, hF⟩ := lt1_some hF
    have hq : MetV (eL E) V yX2_copyFrom cX2_copyFrom 2 ({ frames := 2, cells := 0, slots := 0, locals := 81 } : Room) (.ref (vA V 0 0) :: [.ref (vA V (4 + ((((M2 11 3) 1) + ((M2 11 3) 2)) - (((M2 11 3) 1) + ((M2 11 3) 2)) / (7 : Int32) * (7 : Int32)).toNatClampNeg) 0)]) M2 (jb M2 0 B7) := (met_v (kX2_copyFrom (by decide) (show (4 + ((((M2 11 3) 1) + ((M2 11 3) 2)) - (((M2 11 3) 1) + ((M2 11 3) 2)) / (7 : Int32) * (7 : Int32)).toNatClampNeg) < 11 from by have hq := vp_lt h4; omega) (show (4 + ((((M2 11 3) 1) + ((M2 11 3) 2)) - (((M2 11 3) 1) + ((M2 11 3) 2)) / (7 : Int32) * (7 : Int32)).toNatClampNeg) ≠ 0 from by omega) rfl e6))
    rw [← e9] at hq
    refine q_callV (as := [.ref (vA V (4 + ((((M2 11 3) 1) + ((M2 11 3) 2)) - (((M2 11 3) 1) + ((M2 11 3) 2)) / (7 : Int32) * (7 : Int32)).toNatClampNeg) 0)]) (rest := []) Cx hq okX2_copyFrom ovX2_copyFrom wd_216 ⟨rfl, rfl, by decide, by decide⟩ hW (oM (by decide)) ic2 rfl hl.1 (Nat.le_of_ble_eq_true rfl) rfl dX1_takeBack_38 (fun H locs hW => ?_)
    refine q_aload_n Cx dX1_takeBack_41 rfl (lv_at hl 0 rfl) ?_
    refine q_get (v := .int ((M8 11 3) 2)) Cx hW oH ic1 2 (by decide) rfl wd_156 dX1_takeBack_42 ?_
    obtain ⟨rfl, rfl⟩ := Prod.mk.inj (Option.some.inj hF)
    exact hret _ _ _ _ dX1_takeBack_45 (nI32 _) hW
  · have hF := (if_pos c1).symm.trans hF
    refine q_bipush (v := (-5 : Int32)) Cx dX1_takeBack_7 (by decide) ?_
    obtain ⟨rfl, rfl⟩ := Prod.mk.inj (Option.some.inj hF)
    exact hret _ _ _ _ dX1_takeBack_9 (nI32 _) hW
set_option maxRecDepth 100000 in
theorem kX1_takeBack {l : Launch} {V : VT} {M : Mem} {r : Int32} {M' : Mem} (hF : FX1_takeBack M = some (r, M')) : MetI l V yX1_takeBack cX1_takeBack 2 .int ({ frames := 3, cells := 0, slots := 0, locals := 102 } : Room) [.ref (vA V 11 3), .ref (vA V 0 0)] r M M' := metI_of (by decide) (Nat.le_of_ble_eq_true rfl) (fun E H0 _ Cx hret H locs ls hW hl => wX1_takeBack Cx hret hW hl hF)
