theorem dX5_set_0 : decode cX5_set 0 = .ok (.aload_n 0, 1) := by decide +kernel
theorem dX5_set_1 : decode cX5_set 1 = .ok (.getfield 22, 3) := by decide +kernel
theorem dX5_set_4 : decode cX5_set 4 = .ok (.aload_n 0, 1) := by decide +kernel
theorem dX5_set_5 : decode cX5_set 5 = .ok (.getfield 12, 3) := by decide +kernel
theorem dX5_set_8 : decode cX5_set 8 = .ok (.invokevirtual 41, 3) := by decide +kernel
theorem dX5_set_11 : decode cX5_set 11 = .ok (.aload_n 0, 1) := by decide +kernel
theorem dX5_set_12 : decode cX5_set 12 = .ok (.getfield 22, 3) := by decide +kernel
theorem dX5_set_15 : decode cX5_set 15 = .ok (.aload_n 0, 1) := by decide +kernel
theorem dX5_set_16 : decode cX5_set 16 = .ok (.getfield 12, 3) := by decide +kernel
theorem dX5_set_19 : decode cX5_set 19 = .ok (.iload_n 1, 1) := by decide +kernel
theorem dX5_set_20 : decode cX5_set 20 = .ok (.iload_n 2, 1) := by decide +kernel
theorem dX5_set_21 : decode cX5_set 21 = .ok (.invokevirtual 45, 3) := by decide +kernel
theorem dX5_set_24 : decode cX5_set 24 = .ok (.invokevirtual 49, 3) := by decide +kernel
theorem dX5_set_27 : decode cX5_set 27 = .ok (.ireturn, 1) := by decide +kernel
theorem okX5_set : CalOK yX5_set cX5_set 3 (some .int) 2 := ⟨wd_16, wd_211, by decide +kernel⟩
theorem ovX5_set : VirOK yX5_set := ⟨wd_209, wd_210⟩
def FX5_set (M : Mem) (l1 : Int32) (l2 : Int32) : Option (Int32 × Mem) :=
  c1 (FX1_prepare M) fun M3 =>
  c2 (FX2_changeSetting (M3 0) l1 l2) fun r4 B6 =>
  lt1 (jb M3 0 B6) fun M7 =>
  c2 (FX1_record M7 r4) fun r9 M11 =>
  some (r9, M11)
set_option maxRecDepth 100000 in
set_option maxHeartbeats 4000000 in
theorem wX5_set {E : WE} {V : VT} {A : Nat → Prop} {H0 : Heap} (Cx : CX E RX5 cX5_set 3 4 124) {r : Int32} {M' : Mem} (hret : RetI E V A H0 cX5_set .int r M') {H : Heap} {locs : List Loc} {ls : Array Slot} {l1 : Int32} {l2 : Int32} {M : Mem} (hW : Wd V A H0 M (eS E) H locs) (hl : lv_has ls 3 [(0, .ref (vA V 11 0)), (1, .int l1), (2, .int l2)]) (hF : FX5_set M l1 l2 = some (r, M')) : Wq E H locs 0 ls [] := by
  unfold FX5_set at hF
  refine q_aload_n Cx dX5_set_0 rfl (lv_at hl 0 rfl) ?_
  refine q_get (v := .ref (vA V 11 3)) Cx hW oX ic5 2 (by decide) rfl wd_191 dX5_set_1 ?_
  refine q_aload_n Cx dX5_set_4 rfl (lv_at hl 0 rfl) ?_
  refine q_get (v := .ref (vA V 0 0)) Cx hW oX ic5 0 (by decide) rfl wd_189 dX5_set_5 ?_
  obtain ⟨M3, e2, hF⟩ := c1_some hF
  refine q_callV (as := [.ref (vA V 0 0)]) (rest := []) Cx (kX1_prepare e2) okX1_prepare ovX1_prepare wd_212 ⟨rfl, rfl, by decide, by decide⟩ hW oH ic1 rfl hl.1 (Nat.le_of_ble_eq_true rfl) rfl dX5_set_8 (fun H locs hW => ?_)
  refine q_aload_n Cx dX5_set_11 rfl (lv_at hl 0 rfl) ?_
  refine q_get (v := .ref (vA V 11 3)) Cx hW oX ic5 2 (by decide) rfl wd_191 dX5_set_12 ?_
  refine q_aload_n Cx dX5_set_15 rfl (lv_at hl 0 rfl) ?_
  refine q_get (v := .ref (vA V 0 0)) Cx hW oX ic5 0 (by decide) rfl wd_189 dX5_set_16 ?_
  refine q_iload_n Cx dX5_set_19 rfl (lv_at hl 1 rfl) ?_
  refine q_iload_n Cx dX5_set_20 rfl (lv_at hl 2 rfl) ?_
  obtain ⟨r4, B6, e5, hF⟩ := c2_some hF
  obtain ⟨M7, e8, hF⟩ := lt1_some hF
  have hq : MetI (eL E) V yX2_changeSetting cX2_changeSetting 4 .int ({ frames := 0, cells := 0, slots := 0, locals := 0 } : Room) (.ref (vA V 0 0) :: [.int l1, .int l2]) r4 M3 (jb M3 0 B6) := (met_w (kX2_changeSetting (by decide) e5))
  rw [← e8] at hq
  refine q_callI (as := [.int l1, .int l2]) (rest := [.ref (vA V 11 3)]) Cx hq okX2_changeSetting ovX2_changeSetting wd_233 ⟨rfl, rfl, by decide, by decide⟩ hW (oM (by decide)) ic2 rfl hl.1 (Nat.le_of_ble_eq_true rfl) rfl dX5_set_21 (fun H locs hW => ?_)
  obtain ⟨r9, M11, e10, hF⟩ := c2_some hF
  refine q_callI (as := [.int r4]) (rest := []) Cx (kX1_record e10) okX1_record ovX1_record wd_237 ⟨rfl, rfl, by decide, by decide⟩ hW oH ic1 rfl hl.1 (Nat.le_of_ble_eq_true rfl) rfl dX5_set_24 (fun H locs hW => ?_)
  obtain ⟨rfl, rfl⟩ := Prod.mk.inj (Option.some.inj hF)
  exact hret _ _ _ _ dX5_set_27 (nI32 _) hW
set_option maxRecDepth 100000 in
theorem kX5_set {l : Launch} {V : VT} {M : Mem} {l1 : Int32} {l2 : Int32} {r : Int32} {M' : Mem} (hF : FX5_set M l1 l2 = some (r, M')) : MetI l V yX5_set cX5_set 3 .int ({ frames := 4, cells := 0, slots := 0, locals := 124 } : Room) [.ref (vA V 11 0), .int l1, .int l2] r M M' := metI_of (by decide) (Nat.le_of_ble_eq_true rfl) (fun E H0 _ Cx hret H locs ls hW hl => wX5_set Cx hret hW hl hF)
theorem dX5_task_0 : decode cX5_task 0 = .ok (.aload_n 0, 1) := by decide +kernel
theorem dX5_task_1 : decode cX5_task 1 = .ok (.getfield 22, 3) := by decide +kernel
theorem dX5_task_4 : decode cX5_task 4 = .ok (.aload_n 0, 1) := by decide +kernel
theorem dX5_task_5 : decode cX5_task 5 = .ok (.getfield 12, 3) := by decide +kernel
theorem dX5_task_8 : decode cX5_task 8 = .ok (.invokevirtual 41, 3) := by decide +kernel
theorem dX5_task_11 : decode cX5_task 11 = .ok (.aload_n 0, 1) := by decide +kernel
theorem dX5_task_12 : decode cX5_task 12 = .ok (.getfield 22, 3) := by decide +kernel
theorem dX5_task_15 : decode cX5_task 15 = .ok (.aload_n 0, 1) := by decide +kernel
theorem dX5_task_16 : decode cX5_task 16 = .ok (.getfield 12, 3) := by decide +kernel
theorem dX5_task_19 : decode cX5_task 19 = .ok (.iload_n 1, 1) := by decide +kernel
theorem dX5_task_20 : decode cX5_task 20 = .ok (.iload_n 2, 1) := by decide +kernel
theorem dX5_task_21 : decode cX5_task 21 = .ok (.iload_n 3, 1) := by decide +kernel
theorem dX5_task_22 : decode cX5_task 22 = .ok (.iload 4, 2) := by decide +kernel
theorem dX5_task_24 : decode cX5_task 24 = .ok (.iload 5, 2) := by decide +kernel
theorem dX5_task_26 : decode cX5_task 26 = .ok (.invokevirtual 53, 3) := by decide +kernel
theorem dX5_task_29 : decode cX5_task 29 = .ok (.invokevirtual 49, 3) := by decide +kernel
theorem dX5_task_32 : decode cX5_task 32 = .ok (.ireturn, 1) := by decide +kernel
theorem okX5_task : CalOK yX5_task cX5_task 6 (some .int) 5 := ⟨wd_16, wd_379, by decide +kernel⟩
theorem ovX5_task : VirOK yX5_task := ⟨wd_377, wd_378⟩
def FX5_task (M : Mem) (l1 : Int32) (l2 : Int32) (l3 : Int32) (l4 : Int32) (l5 : Int32) : Option (Int32 × Mem) :=
  c1 (FX1_prepare M) fun M3 =>
  c2 (FX2_addTask (M3 0) l1 l2 l3 l4 l5) fun r4 B6 =>
  lt1 (jb M3 0 B6) fun M7 =>
  c2 (FX1_record M7 r4) fun r9 M11 =>
  some (r9, M11)
set_option maxRecDepth 100000 in
set_option maxHeartbeats 4000000 in
theorem wX5_task {E : WE} {V : VT} {A : Nat → Prop} {H0 : Heap} (Cx : CX E RX5 cX5_task 6 4 124) {r : Int32} {M' : Mem} (hret : RetI E V A H0 cX5_task .int r M') {H : Heap} {locs : List Loc} {ls : Array Slot} {l1 : Int32} {l2 : Int32} {l3 : Int32} {l4 : Int32} {l5 : Int32} {M : Mem} (hW : Wd V A H0 M (eS E) H locs) (hl : lv_has ls 6 [(0, .ref (vA V 11 0)), (1, .int l1), (2, .int l2), (3, .int l3), (4, .int l4), (5, .int l5)]) (hF : FX5_task M l1 l2 l3 l4 l5 = some (r, M')) : Wq E H locs 0 ls [] := by
  unfold FX5_task at hF
  refine q_aload_n Cx dX5_task_0 rfl (lv_at hl 0 rfl) ?_
  refine q_get (v := .ref (vA V 11 3)) Cx hW oX ic5 2 (by decide) rfl wd_191 dX5_task_1 ?_
  refine q_aload_n Cx dX5_task_4 rfl (lv_at hl 0 rfl) ?_
  refine q_get (v := .ref (vA V 0 0)) Cx hW oX ic5 0 (by decide) rfl wd_189 dX5_task_5 ?_
  obtain ⟨M3, e2, hF⟩ := c1_some hF
  refine q_callV (as := [.ref (vA V 0 0)]) (rest := []) Cx (kX1_prepare e2) okX1_prepare ovX1_prepare wd_212 ⟨rfl, rfl, by decide, by decide⟩ hW oH ic1 rfl hl.1 (Nat.le_of_ble_eq_true rfl) rfl dX5_task_8 (fun H locs hW => ?_)
  refine q_aload_n Cx dX5_task_11 rfl (lv_at hl 0 rfl) ?_
  refine q_get (v := .ref (vA V 11 3)) Cx hW oX ic5 2 (by decide) rfl wd_191 dX5_task_12 ?_
  refine q_aload_n Cx dX5_task_15 rfl (lv_at hl 0 rfl) ?_
  refine q_get (v := .ref (vA V 0 0)) Cx hW oX ic5 0 (by decide) rfl wd_189 dX5_task_16 ?_
  refine q_iload_n Cx dX5_task_19 rfl (lv_at hl 1 rfl) ?_
  refine q_iload_n Cx dX5_task_20 rfl (lv_at hl 2 rfl) ?_
  refine q_iload_n Cx dX5_task_21 rfl (lv_at hl 3 rfl) ?_
  refine q_iload Cx dX5_task_22 (lv_at hl 4 rfl) ?_
  refine q_iload Cx dX5_task_24 (lv_at hl 5 rfl) ?_
  obtain ⟨r4, B6, e5, hF⟩ := c2_some hF
  obtain ⟨M7, e8, hF⟩ := lt1_some hF
  have hq : MetI (eL E) V yX2_addTask cX2_addTask 7 .int ({ frames := 3, cells := 0, slots := 0, locals := 88 } : Room) (.ref (vA V 0 0) :: [.int l1, .int l2, .int l3, .int l4, .int l5]) r4 M3 (jb M3 0 B6) := (met_w (kX2_addTask (by decide) e5))
  rw [← e8] at hq
  refine q_callI (as := [.int l1, .int l2, .int l3, .int l4, .int l5]) (rest := [.ref (vA V 11 3)]) Cx hq okX2_addTask ovX2_addTask wd_380 ⟨rfl, rfl, by decide, by decide⟩ hW (oM (by decide)) ic2 rfl hl.1 (Nat.le_of_ble_eq_true rfl) rfl dX5_task_26 (fun H locs hW => ?_)
  obtain ⟨r9, M11, e10, hF⟩ := c2_some hF
  refine q_callI (as := [.int r4]) (rest := []) Cx (kX1_record e10) okX1_record ovX1_record wd_237 ⟨rfl, rfl, by decide, by decide⟩ hW oH ic1 rfl hl.1 (Nat.le_of_ble_eq_true rfl) rfl dX5_task_29 (fun H locs hW => ?_)
  obtain ⟨rfl, rfl⟩ := Prod.mk.inj (Option.some.inj hF)
  exact hret _ _ _ _ dX5_task_32 (nI32 _) hW
set_option maxRecDepth 100000 in
theorem kX5_task {l : Launch} {V : VT} {M : Mem} {l1 : Int32} {l2 : Int32} {l3 : Int32} {l4 : Int32} {l5 : Int32} {r : Int32} {M' : Mem} (hF : FX5_task M l1 l2 l3 l4 l5 = some (r, M')) : MetI l V yX5_task cX5_task 6 .int ({ frames := 4, cells := 0, slots := 0, locals := 124 } : Room) [.ref (vA V 11 0), .int l1, .int l2, .int l3, .int l4, .int l5] r M M' := metI_of (by decide) (Nat.le_of_ble_eq_true rfl) (fun E H0 _ Cx hret H locs ls hW hl => wX5_task Cx hret hW hl hF)
theorem dX5_duration_0 : decode cX5_duration 0 = .ok (.aload_n 0, 1) := by decide +kernel
theorem dX5_duration_1 : decode cX5_duration 1 = .ok (.getfield 22, 3) := by decide +kernel
theorem dX5_duration_4 : decode cX5_duration 4 = .ok (.aload_n 0, 1) := by decide +kernel
theorem dX5_duration_5 : decode cX5_duration 5 = .ok (.getfield 12, 3) := by decide +kernel
theorem dX5_duration_8 : decode cX5_duration 8 = .ok (.invokevirtual 41, 3) := by decide +kernel
theorem dX5_duration_11 : decode cX5_duration 11 = .ok (.aload_n 0, 1) := by decide +kernel
theorem dX5_duration_12 : decode cX5_duration 12 = .ok (.getfield 22, 3) := by decide +kernel
theorem dX5_duration_15 : decode cX5_duration 15 = .ok (.aload_n 0, 1) := by decide +kernel
theorem dX5_duration_16 : decode cX5_duration 16 = .ok (.getfield 12, 3) := by decide +kernel
theorem dX5_duration_19 : decode cX5_duration 19 = .ok (.iload_n 1, 1) := by decide +kernel
theorem dX5_duration_20 : decode cX5_duration 20 = .ok (.iload_n 2, 1) := by decide +kernel
theorem dX5_duration_21 : decode cX5_duration 21 = .ok (.invokevirtual 57, 3) := by decide +kernel
theorem dX5_duration_24 : decode cX5_duration 24 = .ok (.invokevirtual 49, 3) := by decide +kernel
theorem dX5_duration_27 : decode cX5_duration 27 = .ok (.ireturn, 1) := by decide +kernel
theorem okX5_duration : CalOK yX5_duration cX5_duration 3 (some .int) 2 := ⟨wd_16, wd_244, by decide +kernel⟩
theorem ovX5_duration : VirOK yX5_duration := ⟨wd_242, wd_243⟩
def FX5_duration (M : Mem) (l1 : Int32) (l2 : Int32) : Option (Int32 × Mem) :=
  c1 (FX1_prepare M) fun M3 =>
  c2 (FX2_changeDuration (M3 0) l1 l2) fun r4 B6 =>
  lt1 (jb M3 0 B6) fun M7 =>
  c2 (FX1_record M7 r4) fun r9 M11 =>
  some (r9, M11)
set_option maxRecDepth 100000 in
set_option maxHeartbeats 4000000 in
theorem wX5_duration {E : WE} {V : VT} {A : Nat → Prop} {H0 : Heap} (Cx : CX E RX5 cX5_duration 3 4 124) {r : Int32} {M' : Mem} (hret : RetI E V A H0 cX5_duration .int r M') {H : Heap} {locs : List Loc} {ls : Array Slot} {l1 : Int32} {l2 : Int32} {M : Mem} (hW : Wd V A H0 M (eS E) H locs) (hl : lv_has ls 3 [(0, .ref (vA V 11 0)), (1, .int l1), (2, .int l2)]) (hF : FX5_duration M l1 l2 = some (r, M')) : Wq E H locs 0 ls [] := by
  unfold FX5_duration at hF
  refine q_aload_n Cx dX5_duration_0 rfl (lv_at hl 0 rfl) ?_
  refine q_get (v := .ref (vA V 11 3)) Cx hW oX ic5 2 (by decide) rfl wd_191 dX5_duration_1 ?_
  refine q_aload_n Cx dX5_duration_4 rfl (lv_at hl 0 rfl) ?_
  refine q_get (v := .ref (vA V 0 0)) Cx hW oX ic5 0 (by decide) rfl wd_189 dX5_duration_5 ?_
  obtain ⟨M3, e2, hF⟩ := c1_some hF
  refine q_callV (as := [.ref (vA V 0 0)]) (rest := []) Cx (kX1_prepare e2) okX1_prepare ovX1_prepare wd_212 ⟨rfl, rfl, by decide, by decide⟩ hW oH ic1 rfl hl.1 (Nat.le_of_ble_eq_true rfl) rfl dX5_duration_8 (fun H locs hW => ?_)
  refine q_aload_n Cx dX5_duration_11 rfl (lv_at hl 0 rfl) ?_
  refine q_get (v := .ref (vA V 11 3)) Cx hW oX ic5 2 (by decide) rfl wd_191 dX5_duration_12 ?_
  refine q_aload_n Cx dX5_duration_15 rfl (lv_at hl 0 rfl) ?_
  refine q_get (v := .ref (vA V 0 0)) Cx hW oX ic5 0 (by decide) rfl wd_189 dX5_duration_16 ?_
  refine q_iload_n Cx dX5_duration_19 rfl (lv_at hl 1 rfl) ?_
  refine q_iload_n Cx dX5_duration_20 rfl (lv_at hl 2 rfl) ?_
  obtain ⟨r4, B6, e5, hF⟩ := c2_some hF
  obtain ⟨M7, e8, hF⟩ := lt1_some hF
  have hq : MetI (eL E) V yX2_changeDuration cX2_changeDuration 4 .int ({ frames := 3, cells := 0, slots := 0, locals := 88 } : Room) (.ref (vA V 0 0) :: [.int l1, .int l2]) r4 M3 (jb M3 0 B6) := (met_w (kX2_changeDuration (by decide) e5))
  rw [← e8] at hq
  refine q_callI (as := [.int l1, .int l2]) (rest := [.ref (vA V 11 3)]) Cx hq okX2_changeDuration ovX2_changeDuration wd_245 ⟨rfl, rfl, by decide, by decide⟩ hW (oM (by decide)) ic2 rfl hl.1 (Nat.le_of_ble_eq_true rfl) rfl dX5_duration_21 (fun H locs hW => ?_)
  obtain ⟨r9, M11, e10, hF⟩ := c2_some hF
  refine q_callI (as := [.int r4]) (rest := []) Cx (kX1_record e10) okX1_record ovX1_record wd_237 ⟨rfl, rfl, by decide, by decide⟩ hW oH ic1 rfl hl.1 (Nat.le_of_ble_eq_true rfl) rfl dX5_duration_24 (fun H locs hW => ?_)
  obtain ⟨rfl, rfl⟩ := Prod.mk.inj (Option.some.inj hF)
  exact hret _ _ _ _ dX5_duration_27 (nI32 _) hW
set_option maxRecDepth 100000 in
theorem kX5_duration {l : Launch} {V : VT} {M : Mem} {l1 : Int32} {l2 : Int32} {r : Int32} {M' : Mem} (hF : FX5_duration M l1 l2 = some (r, M')) : MetI l V yX5_duration cX5_duration 3 .int ({ frames := 4, cells := 0, slots := 0, locals := 124 } : Room) [.ref (vA V 11 0), .int l1, .int l2] r M M' := metI_of (by decide) (Nat.le_of_ble_eq_true rfl) (fun E H0 _ Cx hret H locs ls hW hl => wX5_duration Cx hret hW hl hF)
theorem dX5_move_0 : decode cX5_move 0 = .ok (.aload_n 0, 1) := by decide +kernel
theorem dX5_move_1 : decode cX5_move 1 = .ok (.getfield 22, 3) := by decide +kernel
theorem dX5_move_4 : decode cX5_move 4 = .ok (.aload_n 0, 1) := by decide +kernel
theorem dX5_move_5 : decode cX5_move 5 = .ok (.getfield 12, 3) := by decide +kernel
theorem dX5_move_8 : decode cX5_move 8 = .ok (.invokevirtual 41, 3) := by decide +kernel
theorem dX5_move_11 : decode cX5_move 11 = .ok (.aload_n 0, 1) := by decide +kernel
theorem dX5_move_12 : decode cX5_move 12 = .ok (.getfield 22, 3) := by decide +kernel
theorem dX5_move_15 : decode cX5_move 15 = .ok (.aload_n 0, 1) := by decide +kernel
theorem dX5_move_16 : decode cX5_move 16 = .ok (.getfield 12, 3) := by decide +kernel
theorem dX5_move_19 : decode cX5_move 19 = .ok (.iload_n 1, 1) := by decide +kernel
theorem dX5_move_20 : decode cX5_move 20 = .ok (.iload_n 2, 1) := by decide +kernel
theorem dX5_move_21 : decode cX5_move 21 = .ok (.invokevirtual 60, 3) := by decide +kernel
theorem dX5_move_24 : decode cX5_move 24 = .ok (.invokevirtual 49, 3) := by decide +kernel
theorem dX5_move_27 : decode cX5_move 27 = .ok (.ireturn, 1) := by decide +kernel
theorem okX5_move : CalOK yX5_move cX5_move 3 (some .int) 2 := ⟨wd_16, wd_457, by decide +kernel⟩
theorem ovX5_move : VirOK yX5_move := ⟨wd_455, wd_456⟩
def FX5_move (M : Mem) (l1 : Int32) (l2 : Int32) : Option (Int32 × Mem) :=
  c1 (FX1_prepare M) fun M3 =>
  c2 (FX2_moveTask (M3 0) l1 l2) fun r4 B6 =>
  lt1 (jb M3 0 B6) fun M7 =>
  c2 (FX1_record M7 r4) fun r9 M11 =>
  some (r9, M11)
set_option maxRecDepth 100000 in
set_option maxHeartbeats 4000000 in
theorem wX5_move {E : WE} {V : VT} {A : Nat → Prop} {H0 : Heap} (Cx : CX E RX5 cX5_move 3 4 124) {r : Int32} {M' : Mem} (hret : RetI E V A H0 cX5_move .int r M') {H : Heap} {locs : List Loc} {ls : Array Slot} {l1 : Int32} {l2 : Int32} {M : Mem} (hW : Wd V A H0 M (eS E) H locs) (hl : lv_has ls 3 [(0, .ref (vA V 11 0)), (1, .int l1), (2, .int l2)]) (hF : FX5_move M l1 l2 = some (r, M')) : Wq E H locs 0 ls [] := by
  unfold FX5_move at hF
  refine q_aload_n Cx dX5_move_0 rfl (lv_at hl 0 rfl) ?_
  refine q_get (v := .ref (vA V 11 3)) Cx hW oX ic5 2 (by decide) rfl wd_191 dX5_move_1 ?_
  refine q_aload_n Cx dX5_move_4 rfl (lv_at hl 0 rfl) ?_
  refine q_get (v := .ref (vA V 0 0)) Cx hW oX ic5 0 (by decide) rfl wd_189 dX5_move_5 ?_
  obtain ⟨M3, e2, hF⟩ := c1_some hF
  refine q_callV (as := [.ref (vA V 0 0)]) (rest := []) Cx (kX1_prepare e2) okX1_prepare ovX1_prepare wd_212 ⟨rfl, rfl, by decide, by decide⟩ hW oH ic1 rfl hl.1 (Nat.le_of_ble_eq_true rfl) rfl dX5_move_8 (fun H locs hW => ?_)
  refine q_aload_n Cx dX5_move_11 rfl (lv_at hl 0 rfl) ?_
  refine q_get (v := .ref (vA V 11 3)) Cx hW oX ic5 2 (by decide) rfl wd_191 dX5_move_12 ?_
  refine q_aload_n Cx dX5_move_15 rfl (lv_at hl 0 rfl) ?_
  refine q_get (v := .ref (vA V 0 0)) Cx hW oX ic5 0 (by decide) rfl wd_189 dX5_move_16 ?_
  refine q_iload_n Cx dX5_move_19 rfl (lv_at hl 1 rfl) ?_
  refine q_iload_n Cx dX5_move_20 rfl (lv_at hl 2 rfl) ?_
  obtain ⟨r4, B6, e5, hF⟩ := c2_some hF
  obtain ⟨M7, e8, hF⟩ := lt1_some hF
  have hq : MetI (eL E) V yX2_moveTask cX2_moveTask 4 .int ({ frames := 3, cells := 0, slots := 0, locals := 88 } : Room) (.ref (vA V 0 0) :: [.int l1, .int l2]) r4 M3 (jb M3 0 B6) := (met_w (kX2_moveTask (by decide) e5))
  rw [← e8] at hq
  refine q_callI (as := [.int l1, .int l2]) (rest := [.ref (vA V 11 3)]) Cx hq okX2_moveTask ovX2_moveTask wd_458 ⟨rfl, rfl, by decide, by decide⟩ hW (oM (by decide)) ic2 rfl hl.1 (Nat.le_of_ble_eq_true rfl) rfl dX5_move_21 (fun H locs hW => ?_)
  obtain ⟨r9, M11, e10, hF⟩ := c2_some hF
  refine q_callI (as := [.int r4]) (rest := []) Cx (kX1_record e10) okX1_record ovX1_record wd_237 ⟨rfl, rfl, by decide, by decide⟩ hW oH ic1 rfl hl.1 (Nat.le_of_ble_eq_true rfl) rfl dX5_move_24 (fun H locs hW => ?_)
  obtain ⟨rfl, rfl⟩ := Prod.mk.inj (Option.some.inj hF)
  exact hret _ _ _ _ dX5_move_27 (nI32 _) hW
set_option maxRecDepth 100000 in
theorem kX5_move {l : Launch} {V : VT} {M : Mem} {l1 : Int32} {l2 : Int32} {r : Int32} {M' : Mem} (hF : FX5_move M l1 l2 = some (r, M')) : MetI l V yX5_move cX5_move 3 .int ({ frames := 4, cells := 0, slots := 0, locals := 124 } : Room) [.ref (vA V 11 0), .int l1, .int l2] r M M' := metI_of (by decide) (Nat.le_of_ble_eq_true rfl) (fun E H0 _ Cx hret H locs ls hW hl => wX5_move Cx hret hW hl hF)
theorem dX5_offer_0 : decode cX5_offer 0 = .ok (.aload_n 0, 1) := by decide +kernel
theorem dX5_offer_1 : decode cX5_offer 1 = .ok (.getfield 22, 3) := by decide +kernel
theorem dX5_offer_4 : decode cX5_offer 4 = .ok (.aload_n 0, 1) := by decide +kernel
theorem dX5_offer_5 : decode cX5_offer 5 = .ok (.getfield 12, 3) := by decide +kernel
theorem dX5_offer_8 : decode cX5_offer 8 = .ok (.invokevirtual 41, 3) := by decide +kernel
theorem dX5_offer_11 : decode cX5_offer 11 = .ok (.aload_n 0, 1) := by decide +kernel
theorem dX5_offer_12 : decode cX5_offer 12 = .ok (.getfield 22, 3) := by decide +kernel
theorem dX5_offer_15 : decode cX5_offer 15 = .ok (.aload_n 0, 1) := by decide +kernel
theorem dX5_offer_16 : decode cX5_offer 16 = .ok (.getfield 12, 3) := by decide +kernel
theorem dX5_offer_19 : decode cX5_offer 19 = .ok (.iload_n 1, 1) := by decide +kernel
theorem dX5_offer_20 : decode cX5_offer 20 = .ok (.iload_n 2, 1) := by decide +kernel
theorem dX5_offer_21 : decode cX5_offer 21 = .ok (.iload_n 3, 1) := by decide +kernel
theorem dX5_offer_22 : decode cX5_offer 22 = .ok (.invokevirtual 63, 3) := by decide +kernel
theorem dX5_offer_25 : decode cX5_offer 25 = .ok (.invokevirtual 49, 3) := by decide +kernel
theorem dX5_offer_28 : decode cX5_offer 28 = .ok (.ireturn, 1) := by decide +kernel
theorem okX5_offer : CalOK yX5_offer cX5_offer 4 (some .int) 3 := ⟨wd_16, wd_392, by decide +kernel⟩
theorem ovX5_offer : VirOK yX5_offer := ⟨wd_390, wd_391⟩
def FX5_offer (M : Mem) (l1 : Int32) (l2 : Int32) (l3 : Int32) : Option (Int32 × Mem) :=
  c1 (FX1_prepare M) fun M3 =>
  c2 (FX2_makeOffer (M3 0) l1 l2 l3) fun r4 B6 =>
  lt1 (jb M3 0 B6) fun M7 =>
  c2 (FX1_record M7 r4) fun r9 M11 =>
  some (r9, M11)
set_option maxRecDepth 100000 in
set_option maxHeartbeats 4000000 in
theorem wX5_offer {E : WE} {V : VT} {A : Nat → Prop} {H0 : Heap} (Cx : CX E RX5 cX5_offer 4 4 124) {r : Int32} {M' : Mem} (hret : RetI E V A H0 cX5_offer .int r M') {H : Heap} {locs : List Loc} {ls : Array Slot} {l1 : Int32} {l2 : Int32} {l3 : Int32} {M : Mem} (hW : Wd V A H0 M (eS E) H locs) (hl : lv_has ls 4 [(0, .ref (vA V 11 0)), (1, .int l1), (2, .int l2), (3, .int l3)]) (hF : FX5_offer M l1 l2 l3 = some (r, M')) : Wq E H locs 0 ls [] := by
  unfold FX5_offer at hF
  refine q_aload_n Cx dX5_offer_0 rfl (lv_at hl 0 rfl) ?_
  refine q_get (v := .ref (vA V 11 3)) Cx hW oX ic5 2 (by decide) rfl wd_191 dX5_offer_1 ?_
  refine q_aload_n Cx dX5_offer_4 rfl (lv_at hl 0 rfl) ?_
  refine q_get (v := .ref (vA V 0 0)) Cx hW oX ic5 0 (by decide) rfl wd_189 dX5_offer_5 ?_
  obtain ⟨M3, e2, hF⟩ := c1_some hF
  refine q_callV (as := [.ref (vA V 0 0)]) (rest := []) Cx (kX1_prepare e2) okX1_prepare ovX1_prepare wd_212 ⟨rfl, rfl, by decide, by decide⟩ hW oH ic1 rfl hl.1 (Nat.le_of_ble_eq_true rfl) rfl dX5_offer_8 (fun H locs hW => ?_)
  refine q_aload_n Cx dX5_offer_11 rfl (lv_at hl 0 rfl) ?_
  refine q_get (v := .ref (vA V 11 3)) Cx hW oX ic5 2 (by decide) rfl wd_191 dX5_offer_12 ?_
  refine q_aload_n Cx dX5_offer_15 rfl (lv_at hl 0 rfl) ?_
  refine q_get (v := .ref (vA V 0 0)) Cx hW oX ic5 0 (by decide) rfl wd_189 dX5_offer_16 ?_
  refine q_iload_n Cx dX5_offer_19 rfl (lv_at hl 1 rfl) ?_
  refine q_iload_n Cx dX5_offer_20 rfl (lv_at hl 2 rfl) ?_
  refine q_iload_n Cx dX5_offer_21 rfl (lv_at hl 3 rfl) ?_
  obtain ⟨r4, B6, e5, hF⟩ := c2_some hF
  obtain ⟨M7, e8, hF⟩ := lt1_some hF
  have hq : MetI (eL E) V yX2_makeOffer cX2_makeOffer 5 .int ({ frames := 1, cells := 0, slots := 0, locals := 23 } : Room) (.ref (vA V 0 0) :: [.int l1, .int l2, .int l3]) r4 M3 (jb M3 0 B6) := (met_w (kX2_makeOffer (by decide) e5))
  rw [← e8] at hq
  refine q_callI (as := [.int l1, .int l2, .int l3]) (rest := [.ref (vA V 11 3)]) Cx hq okX2_makeOffer ovX2_makeOffer wd_393 ⟨rfl, rfl, by decide, by decide⟩ hW (oM (by decide)) ic2 rfl hl.1 (Nat.le_of_ble_eq_true rfl) rfl dX5_offer_22 (fun H locs hW => ?_)
  obtain ⟨r9, M11, e10, hF⟩ := c2_some hF
  refine q_callI (as := [.int r4]) (rest := []) Cx (kX1_record e10) okX1_record ovX1_record wd_237 ⟨rfl, rfl, by decide, by decide⟩ hW oH ic1 rfl hl.1 (Nat.le_of_ble_eq_true rfl) rfl dX5_offer_25 (fun H locs hW => ?_)
  obtain ⟨rfl, rfl⟩ := Prod.mk.inj (Option.some.inj hF)
  exact hret _ _ _ _ dX5_offer_28 (nI32 _) hW
set_option maxRecDepth 100000 in
theorem kX5_offer {l : Launch} {V : VT} {M : Mem} {l1 : Int32} {l2 : Int32} {l3 : Int32} {r : Int32} {M' : Mem} (hF : FX5_offer M l1 l2 l3 = some (r, M')) : MetI l V yX5_offer cX5_offer 4 .int ({ frames := 4, cells := 0, slots := 0, locals := 124 } : Room) [.ref (vA V 11 0), .int l1, .int l2, .int l3] r M M' := metI_of (by decide) (Nat.le_of_ble_eq_true rfl) (fun E H0 _ Cx hret H locs ls hW hl => wX5_offer Cx hret hW hl hF)
theorem dX5_trade_0 : decode cX5_trade 0 = .ok (.aload_n 0, 1) := by decide +kernel
theorem dX5_trade_1 : decode cX5_trade 1 = .ok (.getfield 22, 3) := by decide +kernel
theorem dX5_trade_4 : decode cX5_trade 4 = .ok (.aload_n 0, 1) := by decide +kernel
theorem dX5_trade_5 : decode cX5_trade 5 = .ok (.getfield 12, 3) := by decide +kernel
theorem dX5_trade_8 : decode cX5_trade 8 = .ok (.invokevirtual 41, 3) := by decide +kernel
theorem dX5_trade_11 : decode cX5_trade 11 = .ok (.aload_n 0, 1) := by decide +kernel
theorem dX5_trade_12 : decode cX5_trade 12 = .ok (.getfield 22, 3) := by decide +kernel
theorem dX5_trade_15 : decode cX5_trade 15 = .ok (.aload_n 0, 1) := by decide +kernel
theorem dX5_trade_16 : decode cX5_trade 16 = .ok (.getfield 12, 3) := by decide +kernel
theorem dX5_trade_19 : decode cX5_trade 19 = .ok (.invokevirtual 67, 3) := by decide +kernel
theorem dX5_trade_22 : decode cX5_trade 22 = .ok (.invokevirtual 49, 3) := by decide +kernel
theorem dX5_trade_25 : decode cX5_trade 25 = .ok (.ireturn, 1) := by decide +kernel
theorem okX5_trade : CalOK yX5_trade cX5_trade 1 (some .int) 0 := ⟨wd_16, wd_551, by decide +kernel⟩
theorem ovX5_trade : VirOK yX5_trade := ⟨wd_549, wd_550⟩
def FX5_trade (M : Mem) : Option (Int32 × Mem) :=
  c1 (FX1_prepare M) fun M3 =>
  c2 (FX2_tradeAll (M3 0)) fun r4 B6 =>
  lt1 (jb M3 0 B6) fun M7 =>
  c2 (FX1_record M7 r4) fun r9 M11 =>
  some (r9, M11)
set_option maxRecDepth 100000 in
set_option maxHeartbeats 4000000 in
theorem wX5_trade {E : WE} {V : VT} {A : Nat → Prop} {H0 : Heap} (Cx : CX E RX5 cX5_trade 1 5 133) {r : Int32} {M' : Mem} (hret : RetI E V A H0 cX5_trade .int r M') {H : Heap} {locs : List Loc} {ls : Array Slot} {M : Mem} (hW : Wd V A H0 M (eS E) H locs) (hl : lv_has ls 1 [(0, .ref (vA V 11 0))]) (hF : FX5_trade M = some (r, M')) : Wq E H locs 0 ls [] := by
  unfold FX5_trade at hF
  refine q_aload_n Cx dX5_trade_0 rfl (lv_at hl 0 rfl) ?_
  refine q_get (v := .ref (vA V 11 3)) Cx hW oX ic5 2 (by decide) rfl wd_191 dX5_trade_1 ?_
  refine q_aload_n Cx dX5_trade_4 rfl (lv_at hl 0 rfl) ?_
  refine q_get (v := .ref (vA V 0 0)) Cx hW oX ic5 0 (by decide) rfl wd_189 dX5_trade_5 ?_
  obtain ⟨M3, e2, hF⟩ := c1_some hF
  refine q_callV (as := [.ref (vA V 0 0)]) (rest := []) Cx (kX1_prepare e2) okX1_prepare ovX1_prepare wd_212 ⟨rfl, rfl, by decide, by decide⟩ hW oH ic1 rfl hl.1 (Nat.le_of_ble_eq_true rfl) rfl dX5_trade_8 (fun H locs hW => ?_)
  refine q_aload_n Cx dX5_trade_11 rfl (lv_at hl 0 rfl) ?_
  refine q_get (v := .ref (vA V 11 3)) Cx hW oX ic5 2 (by decide) rfl wd_191 dX5_trade_12 ?_
  refine q_aload_n Cx dX5_trade_15 rfl (lv_at hl 0 rfl) ?_
  refine q_get (v := .ref (vA V 0 0)) Cx hW oX ic5 0 (by decide) rfl wd_189 dX5_trade_16 ?_
  obtain ⟨r4, B6, e5, hF⟩ := c2_some hF
  obtain ⟨M7, e8, hF⟩ := lt1_some hF
  have hq : MetI (eL E) V yX2_tradeAll cX2_tradeAll 5 .int ({ frames := 4, cells := 0, slots := 0, locals := 109 } : Room) (.ref (vA V 0 0) :: []) r4 M3 (jb M3 0 B6) := (met_w (kX2_tradeAll (by decide) e5))
  rw [← e8] at hq
  refine q_callI (as := []) (rest := [.ref (vA V 11 3)]) Cx hq okX2_tradeAll ovX2_tradeAll wd_484 ⟨rfl, rfl, by decide, by decide⟩ hW (oM (by decide)) ic2 rfl hl.1 (Nat.le_of_ble_eq_true rfl) rfl dX5_trade_19 (fun H locs hW => ?_)
  obtain ⟨r9, M11, e10, hF⟩ := c2_some hF
  refine q_callI (as := [.int r4]) (rest := []) Cx (kX1_record e10) okX1_record ovX1_record wd_237 ⟨rfl, rfl, by decide, by decide⟩ hW oH ic1 rfl hl.1 (Nat.le_of_ble_eq_true rfl) rfl dX5_trade_22 (fun H locs hW => ?_)
  obtain ⟨rfl, rfl⟩ := Prod.mk.inj (Option.some.inj hF)
  exact hret _ _ _ _ dX5_trade_25 (nI32 _) hW
set_option maxRecDepth 100000 in
theorem kX5_trade {l : Launch} {V : VT} {M : Mem} {r : Int32} {M' : Mem} (hF : FX5_trade M = some (r, M')) : MetI l V yX5_trade cX5_trade 1 .int ({ frames := 5, cells := 0, slots := 0, locals := 133 } : Room) [.ref (vA V 11 0)] r M M' := metI_of (by decide) (Nat.le_of_ble_eq_true rfl) (fun E H0 _ Cx hret H locs ls hW hl => wX5_trade Cx hret hW hl hF)
theorem dX5_refund_0 : decode cX5_refund 0 = .ok (.aload_n 0, 1) := by decide +kernel
theorem dX5_refund_1 : decode cX5_refund 1 = .ok (.getfield 22, 3) := by decide +kernel
theorem dX5_refund_4 : decode cX5_refund 4 = .ok (.aload_n 0, 1) := by decide +kernel
theorem dX5_refund_5 : decode cX5_refund 5 = .ok (.getfield 12, 3) := by decide +kernel
theorem dX5_refund_8 : decode cX5_refund 8 = .ok (.invokevirtual 41, 3) := by decide +kernel
theorem dX5_refund_11 : decode cX5_refund 11 = .ok (.aload_n 0, 1) := by decide +kernel
theorem dX5_refund_12 : decode cX5_refund 12 = .ok (.getfield 22, 3) := by decide +kernel
theorem dX5_refund_15 : decode cX5_refund 15 = .ok (.aload_n 0, 1) := by decide +kernel
theorem dX5_refund_16 : decode cX5_refund 16 = .ok (.getfield 12, 3) := by decide +kernel
theorem dX5_refund_19 : decode cX5_refund 19 = .ok (.iload_n 1, 1) := by decide +kernel
theorem dX5_refund_20 : decode cX5_refund 20 = .ok (.iload_n 2, 1) := by decide +kernel
theorem dX5_refund_21 : decode cX5_refund 21 = .ok (.invokevirtual 71, 3) := by decide +kernel
theorem dX5_refund_24 : decode cX5_refund 24 = .ok (.invokevirtual 49, 3) := by decide +kernel
theorem dX5_refund_27 : decode cX5_refund 27 = .ok (.ireturn, 1) := by decide +kernel
theorem okX5_refund : CalOK yX5_refund cX5_refund 3 (some .int) 2 := ⟨wd_16, wd_575, by decide +kernel⟩
theorem ovX5_refund : VirOK yX5_refund := ⟨wd_573, wd_574⟩
def FX5_refund (M : Mem) (l1 : Int32) (l2 : Int32) : Option (Int32 × Mem) :=
  c1 (FX1_prepare M) fun M3 =>
  c2 (FX2_giveBack (M3 0) l1 l2) fun r4 B6 =>
  lt1 (jb M3 0 B6) fun M7 =>
  c2 (FX1_record M7 r4) fun r9 M11 =>
  some (r9, M11)
set_option maxRecDepth 100000 in
set_option maxHeartbeats 4000000 in
theorem wX5_refund {E : WE} {V : VT} {A : Nat → Prop} {H0 : Heap} (Cx : CX E RX5 cX5_refund 3 4 124) {r : Int32} {M' : Mem} (hret : RetI E V A H0 cX5_refund .int r M') {H : Heap} {locs : List Loc} {ls : Array Slot} {l1 : Int32} {l2 : Int32} {M : Mem} (hW : Wd V A H0 M (eS E) H locs) (hl : lv_has ls 3 [(0, .ref (vA V 11 0)), (1, .int l1), (2, .int l2)]) (hF : FX5_refund M l1 l2 = some (r, M')) : Wq E H locs 0 ls [] := by
  unfold FX5_refund at hF
  refine q_aload_n Cx dX5_refund_0 rfl (lv_at hl 0 rfl) ?_
  refine q_get (v := .ref (vA V 11 3)) Cx hW oX ic5 2 (by decide) rfl wd_191 dX5_refund_1 ?_
  refine q_aload_n Cx dX5_refund_4 rfl (lv_at hl 0 rfl) ?_
  refine q_get (v := .ref (vA V 0 0)) Cx hW oX ic5 0 (by decide) rfl wd_189 dX5_refund_5 ?_
  obtain ⟨M3, e2, hF⟩ := c1_some hF
  refine q_callV (as := [.ref (vA V 0 0)]) (rest := []) Cx (kX1_prepare e2) okX1_prepare ovX1_prepare wd_212 ⟨rfl, rfl, by decide, by decide⟩ hW oH ic1 rfl hl.1 (Nat.le_of_ble_eq_true rfl) rfl dX5_refund_8 (fun H locs hW => ?_)
  refine q_aload_n Cx dX5_refund_11 rfl (lv_at hl 0 rfl) ?_
  refine q_get (v := .ref (vA V 11 3)) Cx hW oX ic5 2 (by decide) rfl wd_191 dX5_refund_12 ?_
  refine q_aload_n Cx dX5_refund_15 rfl (lv_at hl 0 rfl) ?_
  refine q_get (v := .ref (vA V 0 0)) Cx hW oX ic5 0 (by decide) rfl wd_189 dX5_refund_16 ?_
  refine q_iload_n Cx dX5_refund_19 rfl (lv_at hl 1 rfl) ?_
  refine q_iload_n Cx dX5_refund_20 rfl (lv_at hl 2 rfl) ?_
  obtain ⟨r4, B6, e5, hF⟩ := c2_some hF
  obtain ⟨M7, e8, hF⟩ := lt1_some hF
  have hq : MetI (eL E) V yX2_giveBack cX2_giveBack 6 .int ({ frames := 2, cells := 0, slots := 0, locals := 45 } : Room) (.ref (vA V 0 0) :: [.int l1, .int l2]) r4 M3 (jb M3 0 B6) := (met_w (kX2_giveBack (by decide) e5))
  rw [← e8] at hq
  refine q_callI (as := [.int l1, .int l2]) (rest := [.ref (vA V 11 3)]) Cx hq okX2_giveBack ovX2_giveBack wd_576 ⟨rfl, rfl, by decide, by decide⟩ hW (oM (by decide)) ic2 rfl hl.1 (Nat.le_of_ble_eq_true rfl) rfl dX5_refund_21 (fun H locs hW => ?_)
  obtain ⟨r9, M11, e10, hF⟩ := c2_some hF
  refine q_callI (as := [.int r4]) (rest := []) Cx (kX1_record e10) okX1_record ovX1_record wd_237 ⟨rfl, rfl, by decide, by decide⟩ hW oH ic1 rfl hl.1 (Nat.le_of_ble_eq_true rfl) rfl dX5_refund_24 (fun H locs hW => ?_)
  obtain ⟨rfl, rfl⟩ := Prod.mk.inj (Option.some.inj hF)
  exact hret _ _ _ _ dX5_refund_27 (nI32 _) hW
set_option maxRecDepth 100000 in
theorem kX5_refund {l : Launch} {V : VT} {M : Mem} {l1 : Int32} {l2 : Int32} {r : Int32} {M' : Mem} (hF : FX5_refund M l1 l2 = some (r, M')) : MetI l V yX5_refund cX5_refund 3 .int ({ frames := 4, cells := 0, slots := 0, locals := 124 } : Room) [.ref (vA V 11 0), .int l1, .int l2] r M M' := metI_of (by decide) (Nat.le_of_ble_eq_true rfl) (fun E H0 _ Cx hret H locs ls hW hl => wX5_refund Cx hret hW hl hF)
theorem dX5_ofTask_0 : decode cX5_ofTask 0 = .ok (.aload_n 0, 1) := by decide +kernel
theorem dX5_ofTask_1 : decode cX5_ofTask 1 = .ok (.getfield 12, 3) := by decide +kernel
theorem dX5_ofTask_4 : decode cX5_ofTask 4 = .ok (.iload_n 1, 1) := by decide +kernel
theorem dX5_ofTask_5 : decode cX5_ofTask 5 = .ok (.iload_n 2, 1) := by decide +kernel
theorem dX5_ofTask_6 : decode cX5_ofTask 6 = .ok (.invokevirtual 77, 3) := by decide +kernel
theorem dX5_ofTask_9 : decode cX5_ofTask 9 = .ok (.ireturn, 1) := by decide +kernel
theorem okX5_ofTask : CalOK yX5_ofTask cX5_ofTask 3 (some .int) 2 := ⟨wd_16, wd_276, by decide +kernel⟩
theorem ovX5_ofTask : VirOK yX5_ofTask := ⟨wd_274, wd_275⟩
def FX5_ofTask (M : Mem) (l1 : Int32) (l2 : Int32) : Option (Int32 × Mem) :=
  c2 (FX2_tellOfTask (M 0) l1 l2) fun r1 B3 =>
  lt1 (jb M 0 B3) fun M4 =>
  some (r1, M4)
set_option maxRecDepth 100000 in
set_option maxHeartbeats 4000000 in
theorem wX5_ofTask {E : WE} {V : VT} {A : Nat → Prop} {H0 : Heap} (Cx : CX E RX5 cX5_ofTask 3 5 129) {r : Int32} {M' : Mem} (hret : RetI E V A H0 cX5_ofTask .int r M') {H : Heap} {locs : List Loc} {ls : Array Slot} {l1 : Int32} {l2 : Int32} {M : Mem} (hW : Wd V A H0 M (eS E) H locs) (hl : lv_has ls 3 [(0, .ref (vA V 11 0)), (1, .int l1), (2, .int l2)]) (hF : FX5_ofTask M l1 l2 = some (r, M')) : Wq E H locs 0 ls [] := by
  unfold FX5_ofTask at hF
  refine q_aload_n Cx dX5_ofTask_0 rfl (lv_at hl 0 rfl) ?_
  refine q_get (v := .ref (vA V 0 0)) Cx hW oX ic5 0 (by decide) rfl wd_189 dX5_ofTask_1 ?_
  refine q_iload_n Cx dX5_ofTask_4 rfl (lv_at hl 1 rfl) ?_
  refine q_iload_n Cx dX5_ofTask_5 rfl (lv_at hl 2 rfl) ?_
  obtain ⟨r1, B3, e2, hF⟩ := c2_some hF
  obtain ⟨M4, e5, hF⟩ := lt1_some hF
  have hq : MetI (eL E) V yX2_tellOfTask cX2_tellOfTask 3 .int ({ frames := 4, cells := 0, slots := 0, locals := 107 } : Room) (.ref (vA V 0 0) :: [.int l1, .int l2]) r1 M (jb M 0 B3) := (met_w (kX2_tellOfTask (by decide) e2))
  rw [← e5] at hq
  refine q_callI (as := [.int l1, .int l2]) (rest := []) Cx hq okX2_tellOfTask ovX2_tellOfTask wd_277 ⟨rfl, rfl, by decide, by decide⟩ hW (oM (by decide)) ic2 rfl hl.1 (Nat.le_of_ble_eq_true rfl) rfl dX5_ofTask_6 (fun H locs hW => ?_)
  obtain ⟨rfl, rfl⟩ := Prod.mk.inj (Option.some.inj hF)
  exact hret _ _ _ _ dX5_ofTask_9 (nI32 _) hW
set_option maxRecDepth 100000 in
theorem kX5_ofTask {l : Launch} {V : VT} {M : Mem} {l1 : Int32} {l2 : Int32} {r : Int32} {M' : Mem} (hF : FX5_ofTask M l1 l2 = some (r, M')) : MetI l V yX5_ofTask cX5_ofTask 3 .int ({ frames := 5, cells := 0, slots := 0, locals := 129 } : Room) [.ref (vA V 11 0), .int l1, .int l2] r M M' := metI_of (by decide) (Nat.le_of_ble_eq_true rfl) (fun E H0 _ Cx hret H locs ls hW hl => wX5_ofTask Cx hret hW hl hF)
theorem dX5_due_0 : decode cX5_due 0 = .ok (.aload_n 0, 1) := by decide +kernel
theorem dX5_due_1 : decode cX5_due 1 = .ok (.getfield 12, 3) := by decide +kernel
theorem dX5_due_4 : decode cX5_due 4 = .ok (.getfield 80, 3) := by decide +kernel
theorem dX5_due_7 : decode cX5_due 7 = .ok (.iload_n 1, 1) := by decide +kernel
theorem dX5_due_8 : decode cX5_due 8 = .ok (.invokevirtual 84, 3) := by decide +kernel
theorem dX5_due_11 : decode cX5_due 11 = .ok (.ifCond .eq 16, 3) := by decide +kernel
theorem dX5_due_14 : decode cX5_due 14 = .ok (.aload_n 0, 1) := by decide +kernel
theorem dX5_due_15 : decode cX5_due 15 = .ok (.getfield 12, 3) := by decide +kernel
theorem dX5_due_18 : decode cX5_due 18 = .ok (.getfield 90, 3) := by decide +kernel
theorem dX5_due_21 : decode cX5_due 21 = .ok (.iload_n 1, 1) := by decide +kernel
theorem dX5_due_22 : decode cX5_due 22 = .ok (.iaload, 1) := by decide +kernel
theorem dX5_due_23 : decode cX5_due 23 = .ok (.i2l, 1) := by decide +kernel
theorem dX5_due_24 : decode cX5_due 24 = .ok (.goto 6, 3) := by decide +kernel
theorem dX5_due_27 : decode cX5_due 27 = .ok (.ldc2_w 94, 3) := by decide +kernel
theorem dX5_due_30 : decode cX5_due 30 = .ok (.lreturn, 1) := by decide +kernel
theorem okX5_due : CalOK yX5_due cX5_due 2 (some .long) 1 := ⟨wd_16, wd_415, by decide +kernel⟩
theorem ovX5_due : VirOK yX5_due := ⟨wd_413, wd_414⟩
def FX5_due (M : Mem) (l1 : Int32) : Option Int64 :=
  c1 (FX4_has (M 0) l1) fun r1 =>
  if r1 = 0 then
    some (-1 : Int64)
  else
    ld (M 0 16) 24 l1 fun v4 =>
    some v4.toInt64
set_option maxRecDepth 100000 in
set_option maxHeartbeats 4000000 in
theorem wX5_due {E : WE} {V : VT} {A : Nat → Prop} {H0 : Heap} {M : Mem} (Cx : CX E RX5 cX5_due 2 1 21) {r : Int64} (hret : RetL E V A H0 cX5_due r M) {H : Heap} {locs : List Loc} {ls : Array Slot} {l1 : Int32} (hW : Wd V A H0 M (eS E) H locs) (hl : lv_has ls 2 [(0, .ref (vA V 11 0)), (1, .int l1)]) (hF : FX5_due M l1 = some r) : Wq E H locs 0 ls [] := by
  unfold FX5_due at hF
  refine q_aload_n Cx dX5_due_0 rfl (lv_at hl 0 rfl) ?_
  refine q_get (v := .ref (vA V 0 0)) Cx hW oX ic5 0 (by decide) rfl wd_189 dX5_due_1 ?_
  refine q_get (v := .ref (vA V 0 1)) Cx hW (oM (by decide)) ic2 0 (by decide) rfl wd_114 dX5_due_4 ?_
  refine q_iload_n Cx dX5_due_7 rfl (lv_at hl 1 rfl) ?_
  obtain ⟨r1, e2, hF⟩ := c1_some hF
  refine q_callI (as := [.int l1]) (rest := []) Cx (met_r (kX4_has (by decide) e2)) okX4_has ovX4_has wd_335 ⟨rfl, rfl, by decide, by decide⟩ hW (oP (by decide)) ic4 rfl hl.1 (Nat.le_of_ble_eq_true rfl) rfl dX5_due_8 (fun H locs hW => ?_)
  refine q_if_eq (tgt := 27) Cx dX5_due_11 (by decide) (fun c3 => ?_) (fun c3 => ?_)
  · have hF := (if_pos c3).symm.trans hF
    refine q_ldc2 (v := (-1 : Int64)) Cx dX5_due_27 wd_416 ?_
    obtain rfl := Option.some.inj hF
    exact hret _ _ _ _ dX5_due_30 hW
  · have hF := (if_neg c3).symm.trans hF
    refine q_aload_n Cx dX5_due_14 rfl (lv_at hl 0 rfl) ?_
    refine q_get (v := .ref (vA V 0 0)) Cx hW oX ic5 0 (by decide) rfl wd_189 dX5_due_15 ?_
    refine q_get (v := .ref (vA V 0 16)) Cx hW (oM (by decide)) ic2 4 (by decide) rfl wd_120 dX5_due_18 ?_
    refine q_iload_n Cx dX5_due_21 rfl (lv_at hl 1 rfl) ?_
    obtain ⟨h5, v4, e6, hF⟩ := ld_some hF
    refine q_iald Cx hW (ai_16 (by decide)) h5 e6 dX5_due_22 ?_
    refine q_i2l Cx dX5_due_23 ?_
    refine q_goto (tgt := 30) Cx dX5_due_24 (by decide) ?_
    obtain rfl := Option.some.inj hF
    exact hret _ _ _ _ dX5_due_30 hW
set_option maxRecDepth 100000 in
theorem kX5_due {l : Launch} {V : VT} {M : Mem} {l1 : Int32} {r : Int64} (hF : FX5_due M l1 = some r) : MetL l V yX5_due cX5_due 2 ({ frames := 1, cells := 0, slots := 0, locals := 21 } : Room) [.ref (vA V 11 0), .int l1] r M M := metL_of (by decide) (Nat.le_of_ble_eq_true rfl) (fun E H0 _ Cx hret H locs ls hW hl => wX5_due Cx hret hW hl hF)
theorem dX5_money_0 : decode cX5_money 0 = .ok (.aload_n 0, 1) := by decide +kernel
theorem dX5_money_1 : decode cX5_money 1 = .ok (.getfield 12, 3) := by decide +kernel
theorem dX5_money_4 : decode cX5_money 4 = .ok (.getfield 80, 3) := by decide +kernel
theorem dX5_money_7 : decode cX5_money 7 = .ok (.iload_n 1, 1) := by decide +kernel
theorem dX5_money_8 : decode cX5_money 8 = .ok (.invokevirtual 84, 3) := by decide +kernel
theorem dX5_money_11 : decode cX5_money 11 = .ok (.ifCond .eq 15, 3) := by decide +kernel
theorem dX5_money_14 : decode cX5_money 14 = .ok (.aload_n 0, 1) := by decide +kernel
theorem dX5_money_15 : decode cX5_money 15 = .ok (.getfield 12, 3) := by decide +kernel
theorem dX5_money_18 : decode cX5_money 18 = .ok (.getfield 96, 3) := by decide +kernel
theorem dX5_money_21 : decode cX5_money 21 = .ok (.iload_n 1, 1) := by decide +kernel
theorem dX5_money_22 : decode cX5_money 22 = .ok (.iaload, 1) := by decide +kernel
theorem dX5_money_23 : decode cX5_money 23 = .ok (.goto 4, 3) := by decide +kernel
theorem dX5_money_26 : decode cX5_money 26 = .ok (.iconst (-1), 1) := by decide +kernel
theorem dX5_money_27 : decode cX5_money 27 = .ok (.ireturn, 1) := by decide +kernel
theorem okX5_money : CalOK yX5_money cX5_money 2 (some .int) 1 := ⟨wd_16, wd_547, by decide +kernel⟩
theorem ovX5_money : VirOK yX5_money := ⟨wd_545, wd_546⟩
def FX5_money (M : Mem) (l1 : Int32) : Option Int32 :=
  c1 (FX4_has (M 0) l1) fun r1 =>
  if r1 = 0 then
    some (-1 : Int32)
  else
    ld (M 0 17) 24 l1 fun v4 =>
    some v4
set_option maxRecDepth 100000 in
set_option maxHeartbeats 4000000 in
theorem wX5_money {E : WE} {V : VT} {A : Nat → Prop} {H0 : Heap} {M : Mem} (Cx : CX E RX5 cX5_money 2 1 21) {r : Int32} (hret : RetI E V A H0 cX5_money .int r M) {H : Heap} {locs : List Loc} {ls : Array Slot} {l1 : Int32} (hW : Wd V A H0 M (eS E) H locs) (hl : lv_has ls 2 [(0, .ref (vA V 11 0)), (1, .int l1)]) (hF : FX5_money M l1 = some r) : Wq E H locs 0 ls [] := by
  unfold FX5_money at hF
  refine q_aload_n Cx dX5_money_0 rfl (lv_at hl 0 rfl) ?_
  refine q_get (v := .ref (vA V 0 0)) Cx hW oX ic5 0 (by decide) rfl wd_189 dX5_money_1 ?_
  refine q_get (v := .ref (vA V 0 1)) Cx hW (oM (by decide)) ic2 0 (by decide) rfl wd_114 dX5_money_4 ?_
  refine q_iload_n Cx dX5_money_7 rfl (lv_at hl 1 rfl) ?_
  obtain ⟨r1, e2, hF⟩ := c1_some hF
  refine q_callI (as := [.int l1]) (rest := []) Cx (met_r (kX4_has (by decide) e2)) okX4_has ovX4_has wd_335 ⟨rfl, rfl, by decide, by decide⟩ hW (oP (by decide)) ic4 rfl hl.1 (Nat.le_of_ble_eq_true rfl) rfl dX5_money_8 (fun H locs hW => ?_)
  refine q_if_eq (tgt := 26) Cx dX5_money_11 (by decide) (fun c3 => ?_) (fun c3 => ?_)
  · have hF := (if_pos c3).symm.trans hF
    refine q_iconst (v := (-1 : Int32)) Cx dX5_money_26 (by decide) ?_
    obtain rfl := Option.some.inj hF
    exact hret _ _ _ _ dX5_money_27 (nI32 _) hW
  · have hF := (if_neg c3).symm.trans hF
    refine q_aload_n Cx dX5_money_14 rfl (lv_at hl 0 rfl) ?_
    refine q_get (v := .ref (vA V 0 0)) Cx hW oX ic5 0 (by decide) rfl wd_189 dX5_money_15 ?_
    refine q_get (v := .ref (vA V 0 17)) Cx hW (oM (by decide)) ic2 5 (by decide) rfl wd_122 dX5_money_18 ?_
    refine q_iload_n Cx dX5_money_21 rfl (lv_at hl 1 rfl) ?_
    obtain ⟨h5, v4, e6, hF⟩ := ld_some hF
    refine q_iald Cx hW (ai_17 (by decide)) h5 e6 dX5_money_22 ?_
    refine q_goto (tgt := 27) Cx dX5_money_23 (by decide) ?_
    obtain rfl := Option.some.inj hF
    exact hret _ _ _ _ dX5_money_27 (nI32 _) hW
set_option maxRecDepth 100000 in
theorem kX5_money {l : Launch} {V : VT} {M : Mem} {l1 : Int32} {r : Int32} (hF : FX5_money M l1 = some r) : MetI l V yX5_money cX5_money 2 .int ({ frames := 1, cells := 0, slots := 0, locals := 21 } : Room) [.ref (vA V 11 0), .int l1] r M M := metI_of (by decide) (Nat.le_of_ble_eq_true rfl) (fun E H0 _ Cx hret H locs ls hW hl => wX5_money Cx hret hW hl hF)
theorem dX5_at_0 : decode cX5_at 0 = .ok (.iload_n 1, 1) := by decide +kernel
theorem dX5_at_1 : decode cX5_at 1 = .ok (.ifCond .lt 8, 3) := by decide +kernel
theorem dX5_at_4 : decode cX5_at 4 = .ok (.iload_n 1, 1) := by decide +kernel
theorem dX5_at_5 : decode cX5_at 5 = .ok (.iconst 4, 1) := by decide +kernel
theorem dX5_at_6 : decode cX5_at 6 = .ok (.if_icmp .lt 5, 3) := by decide +kernel
theorem dX5_at_9 : decode cX5_at 9 = .ok (.iconst (-1), 1) := by decide +kernel
theorem dX5_at_10 : decode cX5_at 10 = .ok (.ireturn, 1) := by decide +kernel
theorem dX5_at_11 : decode cX5_at 11 = .ok (.aload_n 0, 1) := by decide +kernel
theorem dX5_at_12 : decode cX5_at 12 = .ok (.getfield 12, 3) := by decide +kernel
theorem dX5_at_15 : decode cX5_at 15 = .ok (.getfield 80, 3) := by decide +kernel
theorem dX5_at_18 : decode cX5_at 18 = .ok (.iload_n 1, 1) := by decide +kernel
theorem dX5_at_19 : decode cX5_at 19 = .ok (.iload_n 2, 1) := by decide +kernel
theorem dX5_at_20 : decode cX5_at 20 = .ok (.invokevirtual 99, 3) := by decide +kernel
theorem dX5_at_23 : decode cX5_at 23 = .ok (.ireturn, 1) := by decide +kernel
theorem okX5_at : CalOK yX5_at cX5_at 3 (some .int) 2 := ⟨wd_16, wd_410, by decide +kernel⟩
theorem ovX5_at : VirOK yX5_at := ⟨wd_408, wd_409⟩
def FX5_at (M : Mem) (l1 : Int32) (l2 : Int32) : Option Int32 :=
  if l1 < 0 then
    some (-1 : Int32)
  else
    if l1 < (4 : Int32) then
      c1 (FX4_inRow (M 0) l1 l2) fun r3 =>
      some r3
    else
      some (-1 : Int32)
set_option maxRecDepth 100000 in
set_option maxHeartbeats 4000000 in
theorem wX5_at {E : WE} {V : VT} {A : Nat → Prop} {H0 : Heap} {M : Mem} (Cx : CX E RX5 cX5_at 3 1 22) {r : Int32} (hret : RetI E V A H0 cX5_at .int r M) {H : Heap} {locs : List Loc} {ls : Array Slot} {l1 : Int32} {l2 : Int32} (hW : Wd V A H0 M (eS E) H locs) (hl : lv_has ls 3 [(0, .ref (vA V 11 0)), (1, .int l1), (2, .int l2)]) (hF : FX5_at M l1 l2 = some r) : Wq E H locs 0 ls [] := by
  unfold FX5_at at hF
  refine q_iload_n Cx dX5_at_0 rfl (lv_at hl 1 rfl) ?_
  refine q_if_lt (tgt := 9) Cx dX5_at_1 (by decide) (fun c1 => ?_) (fun c1 => ?_)
  · have hF := (if_pos c1).symm.trans hF
    refine q_iconst (v := (-1 : Int32)) Cx dX5_at_9 (by decide) ?_
    obtain rfl := Option.some.inj hF
    exact hret _ _ _ _ dX5_at_10 (nI32 _) hW
  · have hF := (if_neg c1).symm.trans hF
    refine q_iload_n Cx dX5_at_4 rfl (lv_at hl 1 rfl) ?_
    refine q_iconst (v := (4 : Int32)) Cx dX5_at_5 (by decide) ?_
    refine q_icmp_lt (tgt := 11) Cx dX5_at_6 (by decide) (fun c2 => ?_) (fun c2 => ?_)
    · have hF := (if_pos c2).symm.trans hF
      refine q_aload_n Cx dX5_at_11 rfl (lv_at hl 0 rfl) ?_
      refine q_get (v := .ref (vA V 0 0)) Cx hW oX ic5 0 (by decide) rfl wd_189 dX5_at_12 ?_
      refine q_get (v := .ref (vA V 0 1)) Cx hW (oM (by decide)) ic2 0 (by decide) rfl wd_114 dX5_at_15 ?_
      refine q_iload_n Cx dX5_at_18 rfl (lv_at hl 1 rfl) ?_
      refine q_iload_n Cx dX5_at_19 rfl (lv_at hl 2 rfl) ?_
      obtain ⟨r3, e4, hF⟩ := c1_some hF
      refine q_callI (as := [.int l1, .int l2]) (rest := []) Cx (met_r (kX4_inRow (by decide) e4)) okX4_inRow ovX4_inRow wd_411 ⟨rfl, rfl, by decide, by decide⟩ hW (oP (by decide)) ic4 rfl hl.1 (Nat.le_of_ble_eq_true rfl) rfl dX5_at_20 (fun H locs hW => ?_)
      obtain rfl := Option.some.inj hF
      exact hret _ _ _ _ dX5_at_23 (nI32 _) hW
    · have hF := (if_neg c2).symm.trans hF
      refine q_iconst (v := (-1 : Int32)) Cx dX5_at_9 (by decide) ?_
      obtain rfl := Option.some.inj hF
      exact hret _ _ _ _ dX5_at_10 (nI32 _) hW
set_option maxRecDepth 100000 in
theorem kX5_at {l : Launch} {V : VT} {M : Mem} {l1 : Int32} {l2 : Int32} {r : Int32} (hF : FX5_at M l1 l2 = some r) : MetI l V yX5_at cX5_at 3 .int ({ frames := 1, cells := 0, slots := 0, locals := 22 } : Room) [.ref (vA V 11 0), .int l1, .int l2] r M M := metI_of (by decide) (Nat.le_of_ble_eq_true rfl) (fun E H0 _ Cx hret H locs ls hW hl => wX5_at Cx hret hW hl hF)
theorem dX5_ofContract_0 : decode cX5_ofContract 0 = .ok (.aload_n 0, 1) := by decide +kernel
theorem dX5_ofContract_1 : decode cX5_ofContract 1 = .ok (.getfield 12, 3) := by decide +kernel
theorem dX5_ofContract_4 : decode cX5_ofContract 4 = .ok (.getfield 102, 3) := by decide +kernel
theorem dX5_ofContract_7 : decode cX5_ofContract 7 = .ok (.iload_n 1, 1) := by decide +kernel
theorem dX5_ofContract_8 : decode cX5_ofContract 8 = .ok (.iload_n 2, 1) := by decide +kernel
theorem dX5_ofContract_9 : decode cX5_ofContract 9 = .ok (.invokevirtual 106, 3) := by decide +kernel
theorem dX5_ofContract_12 : decode cX5_ofContract 12 = .ok (.ireturn, 1) := by decide +kernel
theorem okX5_ofContract : CalOK yX5_ofContract cX5_ofContract 3 (some .int) 2 := ⟨wd_16, wd_555, by decide +kernel⟩
theorem ovX5_ofContract : VirOK yX5_ofContract := ⟨wd_553, wd_554⟩
def FX5_ofContract (M : Mem) (l1 : Int32) (l2 : Int32) : Option Int32 :=
  c1 (FX0_tell (M 0) l1 l2) fun r1 =>
  some r1
set_option maxRecDepth 100000 in
set_option maxHeartbeats 4000000 in
theorem wX5_ofContract {E : WE} {V : VT} {A : Nat → Prop} {H0 : Heap} {M : Mem} (Cx : CX E RX5 cX5_ofContract 3 2 43) {r : Int32} (hret : RetI E V A H0 cX5_ofContract .int r M) {H : Heap} {locs : List Loc} {ls : Array Slot} {l1 : Int32} {l2 : Int32} (hW : Wd V A H0 M (eS E) H locs) (hl : lv_has ls 3 [(0, .ref (vA V 11 0)), (1, .int l1), (2, .int l2)]) (hF : FX5_ofContract M l1 l2 = some r) : Wq E H locs 0 ls [] := by
  unfold FX5_ofContract at hF
  refine q_aload_n Cx dX5_ofContract_0 rfl (lv_at hl 0 rfl) ?_
  refine q_get (v := .ref (vA V 0 0)) Cx hW oX ic5 0 (by decide) rfl wd_189 dX5_ofContract_1 ?_
  refine q_get (v := .ref (vA V 0 2)) Cx hW (oM (by decide)) ic2 1 (by decide) rfl wd_116 dX5_ofContract_4 ?_
  refine q_iload_n Cx dX5_ofContract_7 rfl (lv_at hl 1 rfl) ?_
  refine q_iload_n Cx dX5_ofContract_8 rfl (lv_at hl 2 rfl) ?_
  obtain ⟨r1, e2, hF⟩ := c1_some hF
  refine q_callI (as := [.int l1, .int l2]) (rest := []) Cx (met_r (kX0_tell (by decide) e2)) okX0_tell ovX0_tell wd_556 ⟨rfl, rfl, by decide, by decide⟩ hW (oC (by decide)) ic0 rfl hl.1 (Nat.le_of_ble_eq_true rfl) rfl dX5_ofContract_9 (fun H locs hW => ?_)
  obtain rfl := Option.some.inj hF
  exact hret _ _ _ _ dX5_ofContract_12 (nI32 _) hW
set_option maxRecDepth 100000 in
theorem kX5_ofContract {l : Launch} {V : VT} {M : Mem} {l1 : Int32} {l2 : Int32} {r : Int32} (hF : FX5_ofContract M l1 l2 = some r) : MetI l V yX5_ofContract cX5_ofContract 3 .int ({ frames := 2, cells := 0, slots := 0, locals := 43 } : Room) [.ref (vA V 11 0), .int l1, .int l2] r M M := metI_of (by decide) (Nat.le_of_ble_eq_true rfl) (fun E H0 _ Cx hret H locs ls hW hl => wX5_ofContract Cx hret hW hl hF)
theorem dX5_count_0 : decode cX5_count 0 = .ok (.iload_n 1, 1) := by decide +kernel
theorem dX5_count_1 : decode cX5_count 1 = .ok (.lookupswitch 43 #[(8, 27), (9, 35)], 27) := by decide +kernel
theorem dX5_count_28 : decode cX5_count 28 = .ok (.aload_n 0, 1) := by decide +kernel
theorem dX5_count_29 : decode cX5_count 29 = .ok (.getfield 37, 3) := by decide +kernel
theorem dX5_count_32 : decode cX5_count 32 = .ok (.getfield 111, 3) := by decide +kernel
theorem dX5_count_35 : decode cX5_count 35 = .ok (.ireturn, 1) := by decide +kernel
theorem dX5_count_36 : decode cX5_count 36 = .ok (.aload_n 0, 1) := by decide +kernel
theorem dX5_count_37 : decode cX5_count 37 = .ok (.getfield 22, 3) := by decide +kernel
theorem dX5_count_40 : decode cX5_count 40 = .ok (.getfield 115, 3) := by decide +kernel
theorem dX5_count_43 : decode cX5_count 43 = .ok (.ireturn, 1) := by decide +kernel
theorem dX5_count_44 : decode cX5_count 44 = .ok (.aload_n 0, 1) := by decide +kernel
theorem dX5_count_45 : decode cX5_count 45 = .ok (.getfield 12, 3) := by decide +kernel
theorem dX5_count_48 : decode cX5_count 48 = .ok (.iload_n 1, 1) := by decide +kernel
theorem dX5_count_49 : decode cX5_count 49 = .ok (.invokevirtual 118, 3) := by decide +kernel
theorem dX5_count_52 : decode cX5_count 52 = .ok (.ireturn, 1) := by decide +kernel
theorem okX5_count : CalOK yX5_count cX5_count 2 (some .int) 1 := ⟨wd_16, wd_420, by decide +kernel⟩
theorem ovX5_count : VirOK yX5_count := ⟨wd_418, wd_419⟩
def FX5_count (M : Mem) (l1 : Int32) : Option Int32 :=
  if l1 = (8 : Int32) then
    some ((M 11 5) 1)
  else
    if l1 = (9 : Int32) then
      some ((M 11 3) 2)
    else
      c1 (FX2_tellOfAll (M 0) l1) fun r3 =>
      some r3
set_option maxRecDepth 100000 in
set_option maxHeartbeats 4000000 in
theorem wX5_count {E : WE} {V : VT} {A : Nat → Prop} {H0 : Heap} {M : Mem} (Cx : CX E RX5 cX5_count 2 4 104) {r : Int32} (hret : RetI E V A H0 cX5_count .int r M) {H : Heap} {locs : List Loc} {ls : Array Slot} {l1 : Int32} (hW : Wd V A H0 M (eS E) H locs) (hl : lv_has ls 2 [(0, .ref (vA V 11 0)), (1, .int l1)]) (hF : FX5_count M l1 = some r) : Wq E H locs 0 ls [] := by
  unfold FX5_count at hF
  refine q_iload_n Cx dX5_count_0 rfl (lv_at hl 1 rfl) ?_
  by_cases c1 : l1 = (8 : Int32)
  · have hF := (if_pos c1).symm.trans hF
    refine q_lookup (tgt := 28) (off := 27) Cx dX5_count_1 (by decide) (ho := (by rw [c1]; decide)) (by decide) ?_
    refine q_aload_n Cx dX5_count_28 rfl (lv_at hl 0 rfl) ?_
    refine q_get (v := .ref (vA V 11 5)) Cx hW oX ic5 5 (by decide) rfl wd_194 dX5_count_29 ?_
    refine q_get (v := .int ((M 11 5) 1)) Cx hW oQ ic3 1 (by decide) rfl wd_172 dX5_count_32 ?_
    obtain rfl := Option.some.inj hF
    exact hret _ _ _ _ dX5_count_35 (nI32 _) hW
  · have hF := (if_neg c1).symm.trans hF
    by_cases c2 : l1 = (9 : Int32)
    · have hF := (if_pos c2).symm.trans hF
      refine q_lookup (tgt := 36) (off := 35) Cx dX5_count_1 (by decide) (ho := (lv_osw c1 (by decide)).trans <| (by rw [c2]; decide)) (by decide) ?_
      refine q_aload_n Cx dX5_count_36 rfl (lv_at hl 0 rfl) ?_
      refine q_get (v := .ref (vA V 11 3)) Cx hW oX ic5 2 (by decide) rfl wd_191 dX5_count_37 ?_
      refine q_get (v := .int ((M 11 3) 2)) Cx hW oH ic1 2 (by decide) rfl wd_157 dX5_count_40 ?_
      obtain rfl := Option.some.inj hF
      exact hret _ _ _ _ dX5_count_43 (nI32 _) hW
    · have hF := (if_neg c2).symm.trans hF
      refine q_lookup (tgt := 44) (off := 43) Cx dX5_count_1 (by decide) (ho := (lv_osw c1 (by decide)).trans <| (lv_osw c2 (by decide)).trans <| rfl) (by decide) ?_
      refine q_aload_n Cx dX5_count_44 rfl (lv_at hl 0 rfl) ?_
      refine q_get (v := .ref (vA V 0 0)) Cx hW oX ic5 0 (by decide) rfl wd_189 dX5_count_45 ?_
      refine q_iload_n Cx dX5_count_48 rfl (lv_at hl 1 rfl) ?_
      obtain ⟨r3, e4, hF⟩ := c1_some hF
      refine q_callI (as := [.int l1]) (rest := []) Cx (met_r (kX2_tellOfAll (by decide) e4)) okX2_tellOfAll ovX2_tellOfAll wd_421 ⟨rfl, rfl, by decide, by decide⟩ hW (oM (by decide)) ic2 rfl hl.1 (Nat.le_of_ble_eq_true rfl) rfl dX5_count_49 (fun H locs hW => ?_)
      obtain rfl := Option.some.inj hF
      exact hret _ _ _ _ dX5_count_52 (nI32 _) hW
set_option maxRecDepth 100000 in
theorem kX5_count {l : Launch} {V : VT} {M : Mem} {l1 : Int32} {r : Int32} (hF : FX5_count M l1 = some r) : MetI l V yX5_count cX5_count 2 .int ({ frames := 4, cells := 0, slots := 0, locals := 104 } : Room) [.ref (vA V 11 0), .int l1] r M M := metI_of (by decide) (Nat.le_of_ble_eq_true rfl) (fun E H0 _ Cx hret H locs ls hW hl => wX5_count Cx hret hW hl hF)
theorem dX5_distance_0 : decode cX5_distance 0 = .ok (.aload_n 0, 1) := by decide +kernel
theorem dX5_distance_1 : decode cX5_distance 1 = .ok (.getfield 12, 3) := by decide +kernel
theorem dX5_distance_4 : decode cX5_distance 4 = .ok (.getfield 80, 3) := by decide +kernel
theorem dX5_distance_7 : decode cX5_distance 7 = .ok (.iload_n 1, 1) := by decide +kernel
theorem dX5_distance_8 : decode cX5_distance 8 = .ok (.invokevirtual 84, 3) := by decide +kernel
theorem dX5_distance_11 : decode cX5_distance 11 = .ok (.ifCond .eq 17, 3) := by decide +kernel
theorem dX5_distance_14 : decode cX5_distance 14 = .ok (.aload_n 0, 1) := by decide +kernel
theorem dX5_distance_15 : decode cX5_distance 15 = .ok (.getfield 12, 3) := by decide +kernel
theorem dX5_distance_18 : decode cX5_distance 18 = .ok (.getfield 80, 3) := by decide +kernel
theorem dX5_distance_21 : decode cX5_distance 21 = .ok (.iload_n 2, 1) := by decide +kernel
theorem dX5_distance_22 : decode cX5_distance 22 = .ok (.invokevirtual 84, 3) := by decide +kernel
theorem dX5_distance_25 : decode cX5_distance 25 = .ok (.ifCond .ne 5, 3) := by decide +kernel
theorem dX5_distance_28 : decode cX5_distance 28 = .ok (.iconst (-1), 1) := by decide +kernel
theorem dX5_distance_29 : decode cX5_distance 29 = .ok (.ireturn, 1) := by decide +kernel
theorem dX5_distance_30 : decode cX5_distance 30 = .ok (.aload_n 0, 1) := by decide +kernel
theorem dX5_distance_31 : decode cX5_distance 31 = .ok (.getfield 12, 3) := by decide +kernel
theorem dX5_distance_34 : decode cX5_distance 34 = .ok (.getfield 80, 3) := by decide +kernel
theorem dX5_distance_37 : decode cX5_distance 37 = .ok (.iload_n 1, 1) := by decide +kernel
theorem dX5_distance_38 : decode cX5_distance 38 = .ok (.invokevirtual 121, 3) := by decide +kernel
theorem dX5_distance_41 : decode cX5_distance 41 = .ok (.aload_n 0, 1) := by decide +kernel
theorem dX5_distance_42 : decode cX5_distance 42 = .ok (.getfield 12, 3) := by decide +kernel
theorem dX5_distance_45 : decode cX5_distance 45 = .ok (.getfield 80, 3) := by decide +kernel
theorem dX5_distance_48 : decode cX5_distance 48 = .ok (.getfield 125, 3) := by decide +kernel
theorem dX5_distance_51 : decode cX5_distance 51 = .ok (.iload_n 2, 1) := by decide +kernel
theorem dX5_distance_52 : decode cX5_distance 52 = .ok (.iaload, 1) := by decide +kernel
theorem dX5_distance_53 : decode cX5_distance 53 = .ok (.ireturn, 1) := by decide +kernel
theorem okX5_distance : CalOK yX5_distance cX5_distance 3 (some .int) 2 := ⟨wd_16, wd_567, by decide +kernel⟩
theorem ovX5_distance : VirOK yX5_distance := ⟨wd_565, wd_566⟩
def FX5_distance (M : Mem) (l1 : Int32) (l2 : Int32) : Option (Int32 × Mem) :=
  c1 (FX4_has (M 0) l1) fun r1 =>
  if r1 = 0 then
    some ((-1 : Int32), M)
  else
    c1 (FX4_has (M 0) l2) fun r4 =>
    if r4 = 0 then
      some ((-1 : Int32), M)
    else
      c1 (FX4_measureFrom (M 0) l1) fun B9 =>
      lt1 (jb M 0 B9) fun M10 =>
      ld (M10 0 11) 24 l2 fun v12 =>
      some (v12, M10)
set_option maxRecDepth 100000 in
set_option maxHeartbeats 4000000 in
theorem wX5_distance {E : WE} {V : VT} {A : Nat → Prop} {H0 : Heap} (Cx : CX E RX5 cX5_distance 3 2 46) {r : Int32} {M' : Mem} (hret : RetI E V A H0 cX5_distance .int r M') {H : Heap} {locs : List Loc} {ls : Array Slot} {l1 : Int32} {l2 : Int32} {M : Mem} (hW : Wd V A H0 M (eS E) H locs) (hl : lv_has ls 3 [(0, .ref (vA V 11 0)), (1, .int l1), (2, .int l2)]) (hF : FX5_distance M l1 l2 = some (r, M')) : Wq E H locs 0 ls [] := by
  unfold FX5_distance at hF
  refine q_aload_n Cx dX5_distance_0 rfl (lv_at hl 0 rfl) ?_
  refine q_get (v := .ref (vA V 0 0)) Cx hW oX ic5 0 (by decide) rfl wd_189 dX5_distance_1 ?_
  refine q_get (v := .ref (vA V 0 1)) Cx hW (oM (by decide)) ic2 0 (by decide) rfl wd_114 dX5_distance_4 ?_
  refine q_iload_n Cx dX5_distance_7 rfl (lv_at hl 1 rfl) ?_
  obtain ⟨r1, e2, hF⟩ := c1_some hF
  refine q_callI (as := [.int l1]) (rest := []) Cx (met_r (kX4_has (by decide) e2)) okX4_has ovX4_has wd_335 ⟨rfl, rfl, by decide, by decide⟩ hW (oP (by decide)) ic4 rfl hl.1 (Nat.le_of_ble_eq_true rfl) rfl dX5_distance_8 (fun H locs hW => ?_)
  refine q_if_eq (tgt := 28) Cx dX5_distance_11 (by decide) (fun c3 => ?_) (fun c3 => ?_)
  · have hF := (if_pos c3).symm.trans hF
    refine q_iconst (v := (-1 : Int32)) Cx dX5_distance_28 (by decide) ?_
    obtain ⟨rfl, rfl⟩ := Prod.mk.inj (Option.some.inj hF)
    exact hret _ _ _ _ dX5_distance_29 (nI32 _) hW
  · have hF := (if_neg c3).symm.trans hF
    refine q_aload_n Cx dX5_distance_14 rfl (lv_at hl 0 rfl) ?_
    refine q_get (v := .ref (vA V 0 0)) Cx hW oX ic5 0 (by decide) rfl wd_189 dX5_distance_15 ?_
    refine q_get (v := .ref (vA V 0 1)) Cx hW (oM (by decide)) ic2 0 (by decide) rfl wd_114 dX5_distance_18 ?_
    refine q_iload_n Cx dX5_distance_21 rfl (lv_at hl 2 rfl) ?_
    obtain ⟨r4, e5, hF⟩ := c1_some hF
    refine q_callI (as := [.int l2]) (rest := []) Cx (met_r (kX4_has (by decide) e5)) okX4_has ovX4_has wd_335 ⟨rfl, rfl, by decide, by decide⟩ hW (oP (by decide)) ic4 rfl hl.1 (Nat.le_of_ble_eq_true rfl) rfl dX5_distance_22 (fun H locs hW => ?_)
    refine q_if_ne (tgt := 30) Cx dX5_distance_25 (by decide) (fun c6 => ?_) (fun c6 => ?_)
    · have hF := (if_neg c6).symm.trans hF
      refine q_aload_n Cx dX5_distance_30 rfl (lv_at hl 0 rfl) ?_
      refine q_get (v := .ref (vA V 0 0)) Cx hW oX ic5 0 (by decide) rfl wd_189 dX5_distance_31 ?_
      refine q_get (v := .ref (vA V 0 1)) Cx hW (oM (by decide)) ic2 0 (by decide) rfl wd_114 dX5_distance_34 ?_
      refine q_iload_n Cx dX5_distance_37 rfl (lv_at hl 1 rfl) ?_
      obtain ⟨B9, e8, hF⟩ := c1_some hF
      obtain ⟨M10, e11, hF⟩ := lt1_some hF
      have hq : MetV (eL E) V yX4_measureFrom cX4_measureFrom 4 ({ frames := 1, cells := 0, slots := 0, locals := 23 } : Room) (.ref (vA V 0 1) :: [.int l1]) M (jb M 0 B9) := (met_v (kX4_measureFrom (by decide) e8))
      rw [← e11] at hq
      refine q_callV (as := [.int l1]) (rest := []) Cx hq okX4_measureFrom ovX4_measureFrom wd_568 ⟨rfl, rfl, by decide, by decide⟩ hW (oP (by decide)) ic4 rfl hl.1 (Nat.le_of_ble_eq_true rfl) rfl dX5_distance_38 (fun H locs hW => ?_)
      refine q_aload_n Cx dX5_distance_41 rfl (lv_at hl 0 rfl) ?_
      refine q_get (v := .ref (vA V 0 0)) Cx hW oX ic5 0 (by decide) rfl wd_189 dX5_distance_42 ?_
      refine q_get (v := .ref (vA V 0 1)) Cx hW (oM (by decide)) ic2 0 (by decide) rfl wd_114 dX5_distance_45 ?_
      refine q_get (v := .ref (vA V 0 11)) Cx hW (oP (by decide)) ic4 9 (by decide) rfl wd_62 dX5_distance_48 ?_
      refine q_iload_n Cx dX5_distance_51 rfl (lv_at hl 2 rfl) ?_
      obtain ⟨h13, v12, e14, hF⟩ := ld_some hF
      refine q_iald Cx hW (ai_11 (by decide)) h13 e14 dX5_distance_52 ?_
      obtain ⟨rfl, rfl⟩ := Prod.mk.inj (Option.some.inj hF)
      exact hret _ _ _ _ dX5_distance_53 (nI32 _) hW
    · have hF := (if_pos c6).symm.trans hF
      refine q_iconst (v := (-1 : Int32)) Cx dX5_distance_28 (by decide) ?_
      obtain ⟨rfl, rfl⟩ := Prod.mk.inj (Option.some.inj hF)
      exact hret _ _ _ _ dX5_distance_29 (nI32 _) hW
set_option maxRecDepth 100000 in
theorem kX5_distance {l : Launch} {V : VT} {M : Mem} {l1 : Int32} {l2 : Int32} {r : Int32} {M' : Mem} (hF : FX5_distance M l1 l2 = some (r, M')) : MetI l V yX5_distance cX5_distance 3 .int ({ frames := 2, cells := 0, slots := 0, locals := 46 } : Room) [.ref (vA V 11 0), .int l1, .int l2] r M M' := metI_of (by decide) (Nat.le_of_ble_eq_true rfl) (fun E H0 _ Cx hret H locs ls hW hl => wX5_distance Cx hret hW hl hF)
theorem dX5_wouldBuy_0 : decode cX5_wouldBuy 0 = .ok (.aload_n 0, 1) := by decide +kernel
theorem dX5_wouldBuy_1 : decode cX5_wouldBuy 1 = .ok (.getfield 12, 3) := by decide +kernel
theorem dX5_wouldBuy_4 : decode cX5_wouldBuy 4 = .ok (.getfield 80, 3) := by decide +kernel
theorem dX5_wouldBuy_7 : decode cX5_wouldBuy 7 = .ok (.iload_n 1, 1) := by decide +kernel
theorem dX5_wouldBuy_8 : decode cX5_wouldBuy 8 = .ok (.invokevirtual 84, 3) := by decide +kernel
theorem dX5_wouldBuy_11 : decode cX5_wouldBuy 11 = .ok (.ifCond .ne 5, 3) := by decide +kernel
theorem dX5_wouldBuy_14 : decode cX5_wouldBuy 14 = .ok (.iconst (-1), 1) := by decide +kernel
theorem dX5_wouldBuy_15 : decode cX5_wouldBuy 15 = .ok (.ireturn, 1) := by decide +kernel
theorem dX5_wouldBuy_16 : decode cX5_wouldBuy 16 = .ok (.iload_n 2, 1) := by decide +kernel
theorem dX5_wouldBuy_17 : decode cX5_wouldBuy 17 = .ok (.ifCond .lt 8, 3) := by decide +kernel
theorem dX5_wouldBuy_20 : decode cX5_wouldBuy 20 = .ok (.iload_n 2, 1) := by decide +kernel
theorem dX5_wouldBuy_21 : decode cX5_wouldBuy 21 = .ok (.iconst 2, 1) := by decide +kernel
theorem dX5_wouldBuy_22 : decode cX5_wouldBuy 22 = .ok (.if_icmp .le 6, 3) := by decide +kernel
theorem dX5_wouldBuy_25 : decode cX5_wouldBuy 25 = .ok (.bipush (-2), 2) := by decide +kernel
theorem dX5_wouldBuy_27 : decode cX5_wouldBuy 27 = .ok (.ireturn, 1) := by decide +kernel
theorem dX5_wouldBuy_28 : decode cX5_wouldBuy 28 = .ok (.aload_n 0, 1) := by decide +kernel
theorem dX5_wouldBuy_29 : decode cX5_wouldBuy 29 = .ok (.getfield 16, 3) := by decide +kernel
theorem dX5_wouldBuy_32 : decode cX5_wouldBuy 32 = .ok (.aload_n 0, 1) := by decide +kernel
theorem dX5_wouldBuy_33 : decode cX5_wouldBuy 33 = .ok (.getfield 12, 3) := by decide +kernel
theorem dX5_wouldBuy_36 : decode cX5_wouldBuy 36 = .ok (.invokevirtual 128, 3) := by decide +kernel
theorem dX5_wouldBuy_39 : decode cX5_wouldBuy 39 = .ok (.aload_n 0, 1) := by decide +kernel
theorem dX5_wouldBuy_40 : decode cX5_wouldBuy 40 = .ok (.getfield 16, 3) := by decide +kernel
theorem dX5_wouldBuy_43 : decode cX5_wouldBuy 43 = .ok (.iload_n 1, 1) := by decide +kernel
theorem dX5_wouldBuy_44 : decode cX5_wouldBuy 44 = .ok (.invokevirtual 131, 3) := by decide +kernel
theorem dX5_wouldBuy_47 : decode cX5_wouldBuy 47 = .ok (.iload_n 2, 1) := by decide +kernel
theorem dX5_wouldBuy_48 : decode cX5_wouldBuy 48 = .ok (.lookupswitch 66 #[(0, 28), (1, 46)], 28) := by decide +kernel
theorem dX5_wouldBuy_76 : decode cX5_wouldBuy 76 = .ok (.aload_n 0, 1) := by decide +kernel
theorem dX5_wouldBuy_77 : decode cX5_wouldBuy 77 = .ok (.getfield 12, 3) := by decide +kernel
theorem dX5_wouldBuy_80 : decode cX5_wouldBuy 80 = .ok (.iload_n 1, 1) := by decide +kernel
theorem dX5_wouldBuy_81 : decode cX5_wouldBuy 81 = .ok (.invokevirtual 134, 3) := by decide +kernel
theorem dX5_wouldBuy_84 : decode cX5_wouldBuy 84 = .ok (.aload_n 0, 1) := by decide +kernel
theorem dX5_wouldBuy_85 : decode cX5_wouldBuy 85 = .ok (.getfield 16, 3) := by decide +kernel
theorem dX5_wouldBuy_88 : decode cX5_wouldBuy 88 = .ok (.iload_n 1, 1) := by decide +kernel
theorem dX5_wouldBuy_89 : decode cX5_wouldBuy 89 = .ok (.invokevirtual 134, 3) := by decide +kernel
theorem dX5_wouldBuy_92 : decode cX5_wouldBuy 92 = .ok (.isub, 1) := by decide +kernel
theorem dX5_wouldBuy_93 : decode cX5_wouldBuy 93 = .ok (.ireturn, 1) := by decide +kernel
theorem dX5_wouldBuy_94 : decode cX5_wouldBuy 94 = .ok (.aload_n 0, 1) := by decide +kernel
theorem dX5_wouldBuy_95 : decode cX5_wouldBuy 95 = .ok (.getfield 12, 3) := by decide +kernel
theorem dX5_wouldBuy_98 : decode cX5_wouldBuy 98 = .ok (.getfield 96, 3) := by decide +kernel
theorem dX5_wouldBuy_101 : decode cX5_wouldBuy 101 = .ok (.iload_n 1, 1) := by decide +kernel
theorem dX5_wouldBuy_102 : decode cX5_wouldBuy 102 = .ok (.iaload, 1) := by decide +kernel
theorem dX5_wouldBuy_103 : decode cX5_wouldBuy 103 = .ok (.aload_n 0, 1) := by decide +kernel
theorem dX5_wouldBuy_104 : decode cX5_wouldBuy 104 = .ok (.getfield 16, 3) := by decide +kernel
theorem dX5_wouldBuy_107 : decode cX5_wouldBuy 107 = .ok (.getfield 96, 3) := by decide +kernel
theorem dX5_wouldBuy_110 : decode cX5_wouldBuy 110 = .ok (.iload_n 1, 1) := by decide +kernel
theorem dX5_wouldBuy_111 : decode cX5_wouldBuy 111 = .ok (.iaload, 1) := by decide +kernel
theorem dX5_wouldBuy_112 : decode cX5_wouldBuy 112 = .ok (.isub, 1) := by decide +kernel
theorem dX5_wouldBuy_113 : decode cX5_wouldBuy 113 = .ok (.ireturn, 1) := by decide +kernel
theorem dX5_wouldBuy_114 : decode cX5_wouldBuy 114 = .ok (.aload_n 0, 1) := by decide +kernel
theorem dX5_wouldBuy_115 : decode cX5_wouldBuy 115 = .ok (.getfield 16, 3) := by decide +kernel
theorem dX5_wouldBuy_118 : decode cX5_wouldBuy 118 = .ok (.getfield 102, 3) := by decide +kernel
theorem dX5_wouldBuy_121 : decode cX5_wouldBuy 121 = .ok (.aload_n 0, 1) := by decide +kernel
theorem dX5_wouldBuy_122 : decode cX5_wouldBuy 122 = .ok (.getfield 12, 3) := by decide +kernel
theorem dX5_wouldBuy_125 : decode cX5_wouldBuy 125 = .ok (.getfield 102, 3) := by decide +kernel
theorem dX5_wouldBuy_128 : decode cX5_wouldBuy 128 = .ok (.getfield 137, 3) := by decide +kernel
theorem dX5_wouldBuy_131 : decode cX5_wouldBuy 131 = .ok (.invokevirtual 140, 3) := by decide +kernel
theorem dX5_wouldBuy_134 : decode cX5_wouldBuy 134 = .ok (.ireturn, 1) := by decide +kernel
theorem okX5_wouldBuy : CalOK yX5_wouldBuy cX5_wouldBuy 3 (some .int) 2 := ⟨wd_16, wd_531, by decide +kernel⟩
theorem ovX5_wouldBuy : VirOK yX5_wouldBuy := ⟨wd_529, wd_530⟩
def FX5_wouldBuy (M : Mem) (l1 : Int32) (l2 : Int32) : Option (Int32 × Mem) :=
  c1 (FX4_has (M 0) l1) fun r1 =>
  if r1 = 0 then
    some ((-1 : Int32), M)
  else
    if l2 < 0 then
      some ((-2 : Int32), M)
    else
      if l2 ≤ (2 : Int32) then
        c1 (FX2_copyFrom (M 1) (M 0)) fun B8 =>
        lt1 (jb M 1 B8) fun M9 =>
        c1 (FX2_buyFor (M9 1) l1) fun B13 =>
        lt1 (jb M9 1 B13) fun M14 =>
        if l2 = (0 : Int32) then
          c1 (FX2_lateOf (M14 0) l1) fun r17 =>
          c1 (FX2_lateOf (M14 1) l1) fun r19 =>
          some ((r17 - r19), M14)
        else
          if l2 = (1 : Int32) then
            ld (M14 0 17) 24 l1 fun v22 =>
            ld (M14 1 17) 24 l1 fun v25 =>
            some ((v22 - v25), M14)
          else
            c1 (FX0_sellersSince (M14 1) ((M14 0 2) 0)) fun r28 =>
            some (r28, M14)
      else
        some ((-2 : Int32), M)
set_option maxRecDepth 100000 in
set_option maxHeartbeats 4000000 in
theorem wX5_wouldBuy {E : WE} {V : VT} {A : Nat → Prop} {H0 : Heap} (Cx : CX E RX5 cX5_wouldBuy 3 4 109) {r : Int32} {M' : Mem} (hret : RetI E V A H0 cX5_wouldBuy .int r M') {H : Heap} {locs : List Loc} {ls : Array Slot} {l1 : Int32} {l2 : Int32} {M : Mem} (hW : Wd V A H0 M (eS E) H locs) (hl : lv_has ls 3 [(0, .ref (vA V 11 0)), (1, .int l1), (2, .int l2)]) (hF : FX5_wouldBuy M l1 l2 = some (r, M')) : Wq E H locs 0 ls [] := by
  unfold FX5_wouldBuy at hF
  refine q_aload_n Cx dX5_wouldBuy_0 rfl (lv_at hl 0 rfl) ?_
  refine q_get (v := .ref (vA V 0 0)) Cx hW oX ic5 0 (by decide) rfl wd_189 dX5_wouldBuy_1 ?_
  refine q_get (v := .ref (vA V 0 1)) Cx hW (oM (by decide)) ic2 0 (by decide) rfl wd_114 dX5_wouldBuy_4 ?_
  refine q_iload_n Cx dX5_wouldBuy_7 rfl (lv_at hl 1 rfl) ?_
  obtain ⟨r1, e2, hF⟩ := c1_some hF
  refine q_callI (as := [.int l1]) (rest := []) Cx (met_r (kX4_has (by decide) e2)) okX4_has ovX4_has wd_335 ⟨rfl, rfl, by decide, by decide⟩ hW (oP (by decide)) ic4 rfl hl.1 (Nat.le_of_ble_eq_true rfl) rfl dX5_wouldBuy_8 (fun H locs hW => ?_)
  refine q_if_ne (tgt := 16) Cx dX5_wouldBuy_11 (by decide) (fun c3 => ?_) (fun c3 => ?_)
  · have hF := (if_neg c3).symm.trans hF
    refine q_iload_n Cx dX5_wouldBuy_16 rfl (lv_at hl 2 rfl) ?_
    refine q_if_lt (tgt := 25) Cx dX5_wouldBuy_17 (by decide) (fun c4 => ?_) (fun c4 => ?_)
    · have hF := (if_pos c4).symm.trans hF
      refine q_bipush (v := (-2 : Int32)) Cx dX5_wouldBuy_25 (by decide) ?_
      obtain ⟨rfl, rfl⟩ := Prod.mk.inj (Option.some.inj hF)
      exact hret _ _ _ _ dX5_wouldBuy_27 (nI32 _) hW
    · have hF := (if_neg c4).symm.trans hF
      refine q_iload_n Cx dX5_wouldBuy_20 rfl (lv_at hl 2 rfl) ?_
      refine q_iconst (v := (2 : Int32)) Cx dX5_wouldBuy_21 (by decide) ?_
      refine q_icmp_le (tgt := 28) Cx dX5_wouldBuy_22 (by decide) (fun c5 => ?_) (fun c5 => ?_)
      · have hF := (if_pos c5).symm.trans hF
        refine q_aload_n Cx dX5_wouldBuy_28 rfl (lv_at hl 0 rfl) ?_
        refine q_get (v := .ref (vA V 1 0)) Cx hW oX ic5 1 (by decide) rfl wd_190 dX5_wouldBuy_29 ?_
        refine q_aload_n Cx dX5_wouldBuy_32 rfl (lv_at hl 0 rfl) ?_
        refine q_get (v := .ref (vA V 0 0)) Cx hW oX ic5 0 (by decide) rfl wd_189 dX5_wouldBuy_33 ?_
        obtain ⟨B8, e7, hF⟩ := c1_some hF
        obtain ⟨M9, e10, hF⟩ := lt1_some hF
        have hq : MetV (eL E) V yX2_copyFrom cX2_copyFrom 2 ({ frames := 2, cells := 0, slots := 0, locals := 81 } : Room) (.ref (vA V 1 0) :: [.ref (vA V 0 0)]) M (jb M 1 B8) := (met_v (kX2_copyFrom (by decide) (by decide) (by decide) rfl e7))
        rw [← e10] at hq
        refine q_callV (as := [.ref (vA V 0 0)]) (rest := []) Cx hq okX2_copyFrom ovX2_copyFrom wd_336 ⟨rfl, rfl, by decide, by decide⟩ hW (oM (by decide)) ic2 rfl hl.1 (Nat.le_of_ble_eq_true rfl) rfl dX5_wouldBuy_36 (fun H locs hW => ?_)
        refine q_aload_n Cx dX5_wouldBuy_39 rfl (lv_at hl 0 rfl) ?_
        refine q_get (v := .ref (vA V 1 0)) Cx hW oX ic5 1 (by decide) rfl wd_190 dX5_wouldBuy_40 ?_
        refine q_iload_n Cx dX5_wouldBuy_43 rfl (lv_at hl 1 rfl) ?_
        obtain ⟨B13, e12, hF⟩ := c1_some hF
        obtain ⟨M14, e15, hF⟩ := lt1_some hF
        have hq : MetV (eL E) V yX2_buyFor cX2_buyFor 5 ({ frames := 3, cells := 0, slots := 0, locals := 85 } : Room) (.ref (vA V 1 0) :: [.int l1]) M9 (jb M9 1 B13) := (met_v (kX2_buyFor (by decide) e12))
        rw [← e15] at hq
        refine q_callV (as := [.int l1]) (rest := []) Cx hq okX2_buyFor ovX2_buyFor wd_532 ⟨rfl, rfl, by decide, by decide⟩ hW (oM (by decide)) ic2 rfl hl.1 (Nat.le_of_ble_eq_true rfl) rfl dX5_wouldBuy_44 (fun H locs hW => ?_)
        refine q_iload_n Cx dX5_wouldBuy_47 rfl (lv_at hl 2 rfl) ?_
        by_cases c16 : l2 = (0 : Int32)
        · have hF := (if_pos c16).symm.trans hF
          refine q_lookup (tgt := 76) (off := 28) Cx dX5_wouldBuy_48 (by decide) (ho := (by rw [c16]; decide)) (by decide) ?_
          refine q_aload_n Cx dX5_wouldBuy_76 rfl (lv_at hl 0 rfl) ?_
          refine q_get (v := .ref (vA V 0 0)) Cx hW oX ic5 0 (by decide) rfl wd_189 dX5_wouldBuy_77 ?_
          refine q_iload_n Cx dX5_wouldBuy_80 rfl (lv_at hl 1 rfl) ?_
          obtain ⟨r17, e18, hF⟩ := c1_some hF
          refine q_callI (as := [.int l1]) (rest := []) Cx (met_r (kX2_lateOf (by decide) e18)) okX2_lateOf ovX2_lateOf wd_533 ⟨rfl, rfl, by decide, by decide⟩ hW (oM (by decide)) ic2 rfl hl.1 (Nat.le_of_ble_eq_true rfl) rfl dX5_wouldBuy_81 (fun H locs hW => ?_)
          refine q_aload_n Cx dX5_wouldBuy_84 rfl (lv_at hl 0 rfl) ?_
          refine q_get (v := .ref (vA V 1 0)) Cx hW oX ic5 1 (by decide) rfl wd_190 dX5_wouldBuy_85 ?_
          refine q_iload_n Cx dX5_wouldBuy_88 rfl (lv_at hl 1 rfl) ?_
          obtain ⟨r19, e20, hF⟩ := c1_some hF
          refine q_callI (as := [.int l1]) (rest := [.int r17]) Cx (met_r (kX2_lateOf (by decide) e20)) okX2_lateOf ovX2_lateOf wd_533 ⟨rfl, rfl, by decide, by decide⟩ hW (oM (by decide)) ic2 rfl hl.1 (Nat.le_of_ble_eq_true rfl) rfl dX5_wouldBuy_89 (fun H locs hW => ?_)
          refine q_isub Cx dX5_wouldBuy_92 ?_
          obtain ⟨rfl, rfl⟩ := Prod.mk.inj (Option.some.inj hF)
          exact hret _ _ _ _ dX5_wouldBuy_93 (nI32 _) hW
        · have hF := (if_neg c16).symm.trans hF
          by_cases c21 : l2 = (1 : Int32)
          · have hF := (if_pos c21).symm.trans hF
            refine q_lookup (tgt := 94) (off := 46) Cx dX5_wouldBuy_48 (by decide) (ho := (lv_osw c16 (by decide)).trans <| (by rw [c21]; decide)) (by decide) ?_
            refine q_aload_n Cx dX5_wouldBuy_94 rfl (lv_at hl 0 rfl) ?_
            refine q_get (v := .ref (vA V 0 0)) Cx hW oX ic5 0 (by decide) rfl wd_189 dX5_wouldBuy_95 ?_
            refine q_get (v := .ref (vA V 0 17)) Cx hW (oM (by decide)) ic2 5 (by decide) rfl wd_122 dX5_wouldBuy_98 ?_
            refine q_iload_n Cx dX5_wouldBuy_101 rfl (lv_at hl 1 rfl) ?_
            obtain ⟨h23, v22, e24, hF⟩ := ld_some hF
            refine q_iald Cx hW (ai_17 (by decide)) h23 e24 dX5_wouldBuy_102 ?_
            refine q_aload_n Cx dX5_wouldBuy_103 rfl (lv_at hl 0 rfl) ?_
            refine q_get (v := .ref (vA V 1 0)) Cx hW oX ic5 1 (by decide) rfl wd_190 dX5_wouldBuy_104 ?_
            refine q_get (v := .ref (vA V 1 17)) Cx hW (oM (by decide)) ic2 5 (by decide) rfl wd_122 dX5_wouldBuy_107 ?_
            refine q_iload_n Cx dX5_wouldBuy_110 rfl (lv_at hl 1 rfl) ?_
            obtain ⟨h26, v25, e27, hF⟩ := ld_some hF
            refine q_iald Cx hW (ai_17 (by decide)) h26 e27 dX5_wouldBuy_111 ?_
            refine q_isub Cx dX5_wouldBuy_112 ?_
            obtain ⟨rfl, rfl⟩ := Prod.mk.inj (Option.some.inj hF)
            exact hret _ _ _ _ dX5_wouldBuy_113 (nI32 _) hW
          · have hF := (if_neg c21).symm.trans hF
            refine q_lookup (tgt := 114) (off := 66) Cx dX5_wouldBuy_48 (by decide) (ho := (lv_osw c16 (by decide)).trans <| (lv_osw c21 (by decide)).trans <| rfl) (by decide) ?_
            refine q_aload_n Cx dX5_wouldBuy_114 rfl (lv_at hl 0 rfl) ?_
            refine q_get (v := .ref (vA V 1 0)) Cx hW oX ic5 1 (by decide) rfl wd_190 dX5_wouldBuy_115 ?_
            refine q_get (v := .ref (vA V 1 2)) Cx hW (oM (by decide)) ic2 1 (by decide) rfl wd_116 dX5_wouldBuy_118 ?_
            refine q_aload_n Cx dX5_wouldBuy_121 rfl (lv_at hl 0 rfl) ?_
            refine q_get (v := .ref (vA V 0 0)) Cx hW oX ic5 0 (by decide) rfl wd_189 dX5_wouldBuy_122 ?_
            refine q_get (v := .ref (vA V 0 2)) Cx hW (oM (by decide)) ic2 1 (by decide) rfl wd_116 dX5_wouldBuy_125 ?_
            refine q_get (v := .int ((M14 0 2) 0)) Cx hW (oC (by decide)) ic0 0 (by decide) rfl wd_93 dX5_wouldBuy_128 ?_
            obtain ⟨r28, e29, hF⟩ := c1_some hF
            refine q_callI (as := [.int ((M14 0 2) 0)]) (rest := []) Cx (met_r (kX0_sellersSince (by decide) e29)) okX0_sellersSince ovX0_sellersSince wd_534 ⟨rfl, rfl, by decide, by decide⟩ hW (oC (by decide)) ic0 rfl hl.1 (Nat.le_of_ble_eq_true rfl) rfl dX5_wouldBuy_131 (fun H locs hW => ?_)
            obtain ⟨rfl, rfl⟩ := Prod.mk.inj (Option.some.inj hF)
            exact hret _ _ _ _ dX5_wouldBuy_134 (nI32 _) hW
      · have hF := (if_neg c5).symm.trans hF
        refine q_bipush (v := (-2 : Int32)) Cx dX5_wouldBuy_25 (by decide) ?_
        obtain ⟨rfl, rfl⟩ := Prod.mk.inj (Option.some.inj hF)
        exact hret _ _ _ _ dX5_wouldBuy_27 (nI32 _) hW
  · have hF := (if_pos c3).symm.trans hF
    refine q_iconst (v := (-1 : Int32)) Cx dX5_wouldBuy_14 (by decide) ?_
    obtain ⟨rfl, rfl⟩ := Prod.mk.inj (Option.some.inj hF)
    exact hret _ _ _ _ dX5_wouldBuy_15 (nI32 _) hW
set_option maxRecDepth 100000 in
theorem kX5_wouldBuy {l : Launch} {V : VT} {M : Mem} {l1 : Int32} {l2 : Int32} {r : Int32} {M' : Mem} (hF : FX5_wouldBuy M l1 l2 = some (r, M')) : MetI l V yX5_wouldBuy cX5_wouldBuy 3 .int ({ frames := 4, cells := 0, slots := 0, locals := 109 } : Room) [.ref (vA V 11 0), .int l1, .int l2] r M M' := metI_of (by decide) (Nat.le_of_ble_eq_true rfl) (fun E H0 _ Cx hret H locs ls hW hl => wX5_wouldBuy Cx hret hW hl hF)
theorem dX5_leastMoney_0 : decode cX5_leastMoney 0 = .ok (.aload_n 0, 1) := by decide +kernel
theorem dX5_leastMoney_1 : decode cX5_leastMoney 1 = .ok (.getfield 12, 3) := by decide +kernel
theorem dX5_leastMoney_4 : decode cX5_leastMoney 4 = .ok (.getfield 80, 3) := by decide +kernel
theorem dX5_leastMoney_7 : decode cX5_leastMoney 7 = .ok (.iload_n 1, 1) := by decide +kernel
theorem dX5_leastMoney_8 : decode cX5_leastMoney 8 = .ok (.invokevirtual 84, 3) := by decide +kernel
theorem dX5_leastMoney_11 : decode cX5_leastMoney 11 = .ok (.ifCond .ne 5, 3) := by decide +kernel
theorem dX5_leastMoney_14 : decode cX5_leastMoney 14 = .ok (.iconst (-1), 1) := by decide +kernel
theorem dX5_leastMoney_15 : decode cX5_leastMoney 15 = .ok (.ireturn, 1) := by decide +kernel
theorem dX5_leastMoney_16 : decode cX5_leastMoney 16 = .ok (.aload_n 0, 1) := by decide +kernel
theorem dX5_leastMoney_17 : decode cX5_leastMoney 17 = .ok (.getfield 16, 3) := by decide +kernel
theorem dX5_leastMoney_20 : decode cX5_leastMoney 20 = .ok (.aload_n 0, 1) := by decide +kernel
theorem dX5_leastMoney_21 : decode cX5_leastMoney 21 = .ok (.getfield 12, 3) := by decide +kernel
theorem dX5_leastMoney_24 : decode cX5_leastMoney 24 = .ok (.invokevirtual 128, 3) := by decide +kernel
theorem dX5_leastMoney_27 : decode cX5_leastMoney 27 = .ok (.aload_n 0, 1) := by decide +kernel
theorem dX5_leastMoney_28 : decode cX5_leastMoney 28 = .ok (.getfield 16, 3) := by decide +kernel
theorem dX5_leastMoney_31 : decode cX5_leastMoney 31 = .ok (.getfield 96, 3) := by decide +kernel
theorem dX5_leastMoney_34 : decode cX5_leastMoney 34 = .ok (.iload_n 1, 1) := by decide +kernel
theorem dX5_leastMoney_35 : decode cX5_leastMoney 35 = .ok (.ldc 143, 2) := by decide +kernel
theorem dX5_leastMoney_37 : decode cX5_leastMoney 37 = .ok (.iastore, 1) := by decide +kernel
theorem dX5_leastMoney_38 : decode cX5_leastMoney 38 = .ok (.aload_n 0, 1) := by decide +kernel
theorem dX5_leastMoney_39 : decode cX5_leastMoney 39 = .ok (.getfield 16, 3) := by decide +kernel
theorem dX5_leastMoney_42 : decode cX5_leastMoney 42 = .ok (.iload_n 1, 1) := by decide +kernel
theorem dX5_leastMoney_43 : decode cX5_leastMoney 43 = .ok (.invokevirtual 131, 3) := by decide +kernel
theorem dX5_leastMoney_46 : decode cX5_leastMoney 46 = .ok (.aload_n 0, 1) := by decide +kernel
theorem dX5_leastMoney_47 : decode cX5_leastMoney 47 = .ok (.getfield 16, 3) := by decide +kernel
theorem dX5_leastMoney_50 : decode cX5_leastMoney 50 = .ok (.iload_n 1, 1) := by decide +kernel
theorem dX5_leastMoney_51 : decode cX5_leastMoney 51 = .ok (.invokevirtual 134, 3) := by decide +kernel
theorem dX5_leastMoney_54 : decode cX5_leastMoney 54 = .ok (.ifCond .le 8, 3) := by decide +kernel
theorem dX5_leastMoney_57 : decode cX5_leastMoney 57 = .ok (.bipush (-6), 2) := by decide +kernel
theorem dX5_leastMoney_59 : decode cX5_leastMoney 59 = .ok (.goto 15, 3) := by decide +kernel
theorem dX5_leastMoney_62 : decode cX5_leastMoney 62 = .ok (.ldc 143, 2) := by decide +kernel
theorem dX5_leastMoney_64 : decode cX5_leastMoney 64 = .ok (.aload_n 0, 1) := by decide +kernel
theorem dX5_leastMoney_65 : decode cX5_leastMoney 65 = .ok (.getfield 16, 3) := by decide +kernel
theorem dX5_leastMoney_68 : decode cX5_leastMoney 68 = .ok (.getfield 96, 3) := by decide +kernel
theorem dX5_leastMoney_71 : decode cX5_leastMoney 71 = .ok (.iload_n 1, 1) := by decide +kernel
theorem dX5_leastMoney_72 : decode cX5_leastMoney 72 = .ok (.iaload, 1) := by decide +kernel
theorem dX5_leastMoney_73 : decode cX5_leastMoney 73 = .ok (.isub, 1) := by decide +kernel
theorem dX5_leastMoney_74 : decode cX5_leastMoney 74 = .ok (.ireturn, 1) := by decide +kernel
theorem okX5_leastMoney : CalOK yX5_leastMoney cX5_leastMoney 2 (some .int) 1 := ⟨wd_16, wd_542, by decide +kernel⟩
theorem ovX5_leastMoney : VirOK yX5_leastMoney := ⟨wd_540, wd_541⟩
def FX5_leastMoney (M : Mem) (l1 : Int32) : Option (Int32 × Mem) :=
  c1 (FX4_has (M 0) l1) fun r1 =>
  if r1 = 0 then
    some ((-1 : Int32), M)
  else
    c1 (FX2_copyFrom (M 1) (M 0)) fun B6 =>
    lt1 (jb M 1 B6) fun M7 =>
    stm M7 1 17 24 l1 (100000000 : Int32) fun M9 =>
    c1 (FX2_buyFor (M9 1) l1) fun B14 =>
    lt1 (jb M9 1 B14) fun M15 =>
    c1 (FX2_lateOf (M15 1) l1) fun r17 =>
    if r17 ≤ 0 then
      ld (M15 1 17) 24 l1 fun v20 =>
      some (((100000000 : Int32) - v20), M15)
    else
      some ((-6 : Int32), M15)
set_option maxRecDepth 100000 in
set_option maxHeartbeats 4000000 in
theorem wX5_leastMoney {E : WE} {V : VT} {A : Nat → Prop} {H0 : Heap} (Cx : CX E RX5 cX5_leastMoney 2 4 109) {r : Int32} {M' : Mem} (hret : RetI E V A H0 cX5_leastMoney .int r M') {H : Heap} {locs : List Loc} {ls : Array Slot} {l1 : Int32} {M : Mem} (hW : Wd V A H0 M (eS E) H locs) (hl : lv_has ls 2 [(0, .ref (vA V 11 0)), (1, .int l1)]) (hF : FX5_leastMoney M l1 = some (r, M')) : Wq E H locs 0 ls [] := by
  unfold FX5_leastMoney at hF
  refine q_aload_n Cx dX5_leastMoney_0 rfl (lv_at hl 0 rfl) ?_
  refine q_get (v := .ref (vA V 0 0)) Cx hW oX ic5 0 (by decide) rfl wd_189 dX5_leastMoney_1 ?_
  refine q_get (v := .ref (vA V 0 1)) Cx hW (oM (by decide)) ic2 0 (by decide) rfl wd_114 dX5_leastMoney_4 ?_
  refine q_iload_n Cx dX5_leastMoney_7 rfl (lv_at hl 1 rfl) ?_
  obtain ⟨r1, e2, hF⟩ := c1_some hF
  refine q_callI (as := [.int l1]) (rest := []) Cx (met_r (kX4_has (by decide) e2)) okX4_has ovX4_has wd_335 ⟨rfl, rfl, by decide, by decide⟩ hW (oP (by decide)) ic4 rfl hl.1 (Nat.le_of_ble_eq_true rfl) rfl dX5_leastMoney_8 (fun H locs hW => ?_)
  refine q_if_ne (tgt := 16) Cx dX5_leastMoney_11 (by decide) (fun c3 => ?_) (fun c3 => ?_)
  · have hF := (if_neg c3).symm.trans hF
    refine q_aload_n Cx dX5_leastMoney_16 rfl (lv_at hl 0 rfl) ?_
    refine q_get (v := .ref (vA V 1 0)) Cx hW oX ic5 1 (by decide) rfl wd_190 dX5_leastMoney_17 ?_
    refine q_aload_n Cx dX5_leastMoney_20 rfl (lv_at hl 0 rfl) ?_
    refine q_get (v := .ref (vA V 0 0)) Cx hW oX ic5 0 (by decide) rfl wd_189 dX5_leastMoney_21 ?_
    obtain ⟨B6, e5, hF⟩ := c1_some hF
    obtain ⟨M7, e8, hF⟩ := lt1_some hF
    have hq : MetV (eL E) V yX2_copyFrom cX2_copyFrom 2 ({ frames := 2, cells := 0, slots := 0, locals := 81 } : Room) (.ref (vA V 1 0) :: [.ref (vA V 0 0)]) M (jb M 1 B6) := (met_v (kX2_copyFrom (by decide) (by decide) (by decide) rfl e5))
    rw [← e8] at hq
    refine q_callV (as := [.ref (vA V 0 0)]) (rest := []) Cx hq okX2_copyFrom ovX2_copyFrom wd_336 ⟨rfl, rfl, by decide, by decide⟩ hW (oM (by decide)) ic2 rfl hl.1 (Nat.le_of_ble_eq_true rfl) rfl dX5_leastMoney_24 (fun H locs hW => ?_)
    refine q_aload_n Cx dX5_leastMoney_27 rfl (lv_at hl 0 rfl) ?_
    refine q_get (v := .ref (vA V 1 0)) Cx hW oX ic5 1 (by decide) rfl wd_190 dX5_leastMoney_28 ?_
    refine q_get (v := .ref (vA V 1 17)) Cx hW (oM (by decide)) ic2 5 (by decide) rfl wd_122 dX5_leastMoney_31 ?_
    refine q_iload_n Cx dX5_leastMoney_34 rfl (lv_at hl 1 rfl) ?_
    refine q_ldc (v := (100000000 : Int32)) Cx dX5_leastMoney_35 wd_543 ?_
    obtain ⟨h10, M9, e11, hF⟩ := stm_some hF
    refine qw_iast Cx hW (ai_17 (by decide)) h10 e11 dX5_leastMoney_37 (fun H locs hW => ?_)
    refine q_aload_n Cx dX5_leastMoney_38 rfl (lv_at hl 0 rfl) ?_
    refine q_get (v := .ref (vA V 1 0)) Cx hW oX ic5 1 (by decide) rfl wd_190 dX5_leastMoney_39 ?_
    refine q_iload_n Cx dX5_leastMoney_42 rfl (lv_at hl 1 rfl) ?_
    obtain ⟨B14, e13, hF⟩ := c1_some hF
    obtain ⟨M15, e16, hF⟩ := lt1_some hF
    have hq : MetV (eL E) V yX2_buyFor cX2_buyFor 5 ({ frames := 3, cells := 0, slots := 0, locals := 85 } : Room) (.ref (vA V 1 0) :: [.int l1]) M9 (jb M9 1 B14) := (met_v (kX2_buyFor (by decide) e13))
    rw [← e16] at hq
    refine q_callV (as := [.int l1]) (rest := []) Cx hq okX2_buyFor ovX2_buyFor wd_532 ⟨rfl, rfl, by decide, by decide⟩ hW (oM (by decide)) ic2 rfl hl.1 (Nat.le_of_ble_eq_true rfl) rfl dX5_leastMoney_43 (fun H locs hW => ?_)
    refine q_aload_n Cx dX5_leastMoney_46 rfl (lv_at hl 0 rfl) ?_
    refine q_get (v := .ref (vA V 1 0)) Cx hW oX ic5 1 (by decide) rfl wd_190 dX5_leastMoney_47 ?_
    refine q_iload_n Cx dX5_leastMoney_50 rfl (lv_at hl 1 rfl) ?_
    obtain ⟨r17, e18, hF⟩ := c1_some hF
    refine q_callI (as := [.int l1]) (rest := []) Cx (met_r (kX2_lateOf (by decide) e18)) okX2_lateOf ovX2_lateOf wd_533 ⟨rfl, rfl, by decide, by decide⟩ hW (oM (by decide)) ic2 rfl hl.1 (Nat.le_of_ble_eq_true rfl) rfl dX5_leastMoney_51 (fun H locs hW => ?_)
    refine q_if_le (tgt := 62) Cx dX5_leastMoney_54 (by decide) (fun c19 => ?_) (fun c19 => ?_)
    · have hF := (if_pos c19).symm.trans hF
      refine q_ldc (v := (100000000 : Int32)) Cx dX5_leastMoney_62 wd_543 ?_
      refine q_aload_n Cx dX5_leastMoney_64 rfl (lv_at hl 0 rfl) ?_
      refine q_get (v := .ref (vA V 1 0)) Cx hW oX ic5 1 (by decide) rfl wd_190 dX5_leastMoney_65 ?_
      refine q_get (v := .ref (vA V 1 17)) Cx hW (oM (by decide)) ic2 5 (by decide) rfl wd_122 dX5_leastMoney_68 ?_
      refine q_iload_n Cx dX5_leastMoney_71 rfl (lv_at hl 1 rfl) ?_
      obtain ⟨h21, v20, e22, hF⟩ := ld_some hF
      refine q_iald Cx hW (ai_17 (by decide)) h21 e22 dX5_leastMoney_72 ?_
      refine q_isub Cx dX5_leastMoney_73 ?_
      obtain ⟨rfl, rfl⟩ := Prod.mk.inj (Option.some.inj hF)
      exact hret _ _ _ _ dX5_leastMoney_74 (nI32 _) hW
    · have hF := (if_neg c19).symm.trans hF
      refine q_bipush (v := (-6 : Int32)) Cx dX5_leastMoney_57 (by decide) ?_
      refine q_goto (tgt := 74) Cx dX5_leastMoney_59 (by decide) ?_
      obtain ⟨rfl, rfl⟩ := Prod.mk.inj (Option.some.inj hF)
      exact hret _ _ _ _ dX5_leastMoney_74 (nI32 _) hW
  · have hF := (if_pos c3).symm.trans hF
    refine q_iconst (v := (-1 : Int32)) Cx dX5_leastMoney_14 (by decide) ?_
    obtain ⟨rfl, rfl⟩ := Prod.mk.inj (Option.some.inj hF)
    exact hret _ _ _ _ dX5_leastMoney_15 (nI32 _) hW
set_option maxRecDepth 100000 in
theorem kX5_leastMoney {l : Launch} {V : VT} {M : Mem} {l1 : Int32} {r : Int32} {M' : Mem} (hF : FX5_leastMoney M l1 = some (r, M')) : MetI l V yX5_leastMoney cX5_leastMoney 2 .int ({ frames := 4, cells := 0, slots := 0, locals := 109 } : Room) [.ref (vA V 11 0), .int l1] r M M' := metI_of (by decide) (Nat.le_of_ble_eq_true rfl) (fun E H0 _ Cx hret H locs ls hW hl => wX5_leastMoney Cx hret hW hl hF)
theorem dX5_endIf_0 : decode cX5_endIf 0 = .ok (.aload_n 0, 1) := by decide +kernel
theorem dX5_endIf_1 : decode cX5_endIf 1 = .ok (.getfield 12, 3) := by decide +kernel
theorem dX5_endIf_4 : decode cX5_endIf 4 = .ok (.getfield 80, 3) := by decide +kernel
theorem dX5_endIf_7 : decode cX5_endIf 7 = .ok (.iload_n 1, 1) := by decide +kernel
theorem dX5_endIf_8 : decode cX5_endIf 8 = .ok (.invokevirtual 84, 3) := by decide +kernel
theorem dX5_endIf_11 : decode cX5_endIf 11 = .ok (.ifCond .eq 17, 3) := by decide +kernel
theorem dX5_endIf_14 : decode cX5_endIf 14 = .ok (.aload_n 0, 1) := by decide +kernel
theorem dX5_endIf_15 : decode cX5_endIf 15 = .ok (.getfield 12, 3) := by decide +kernel
theorem dX5_endIf_18 : decode cX5_endIf 18 = .ok (.getfield 80, 3) := by decide +kernel
theorem dX5_endIf_21 : decode cX5_endIf 21 = .ok (.iload_n 2, 1) := by decide +kernel
theorem dX5_endIf_22 : decode cX5_endIf 22 = .ok (.invokevirtual 84, 3) := by decide +kernel
theorem dX5_endIf_25 : decode cX5_endIf 25 = .ok (.ifCond .ne 5, 3) := by decide +kernel
theorem dX5_endIf_28 : decode cX5_endIf 28 = .ok (.iconst (-1), 1) := by decide +kernel
theorem dX5_endIf_29 : decode cX5_endIf 29 = .ok (.ireturn, 1) := by decide +kernel
theorem dX5_endIf_30 : decode cX5_endIf 30 = .ok (.aload_n 0, 1) := by decide +kernel
theorem dX5_endIf_31 : decode cX5_endIf 31 = .ok (.getfield 16, 3) := by decide +kernel
theorem dX5_endIf_34 : decode cX5_endIf 34 = .ok (.aload_n 0, 1) := by decide +kernel
theorem dX5_endIf_35 : decode cX5_endIf 35 = .ok (.getfield 12, 3) := by decide +kernel
theorem dX5_endIf_38 : decode cX5_endIf 38 = .ok (.invokevirtual 128, 3) := by decide +kernel
theorem dX5_endIf_41 : decode cX5_endIf 41 = .ok (.aload_n 0, 1) := by decide +kernel
theorem dX5_endIf_42 : decode cX5_endIf 42 = .ok (.getfield 16, 3) := by decide +kernel
theorem dX5_endIf_45 : decode cX5_endIf 45 = .ok (.iload_n 2, 1) := by decide +kernel
theorem dX5_endIf_46 : decode cX5_endIf 46 = .ok (.iload_n 3, 1) := by decide +kernel
theorem dX5_endIf_47 : decode cX5_endIf 47 = .ok (.invokevirtual 57, 3) := by decide +kernel
theorem dX5_endIf_50 : decode cX5_endIf 50 = .ok (.istore 4, 2) := by decide +kernel
theorem dX5_endIf_52 : decode cX5_endIf 52 = .ok (.iload 4, 2) := by decide +kernel
theorem dX5_endIf_54 : decode cX5_endIf 54 = .ok (.ifCond .ge 8, 3) := by decide +kernel
theorem dX5_endIf_57 : decode cX5_endIf 57 = .ok (.iload 4, 2) := by decide +kernel
theorem dX5_endIf_59 : decode cX5_endIf 59 = .ok (.goto 14, 3) := by decide +kernel
theorem dX5_endIf_62 : decode cX5_endIf 62 = .ok (.aload_n 0, 1) := by decide +kernel
theorem dX5_endIf_63 : decode cX5_endIf 63 = .ok (.getfield 16, 3) := by decide +kernel
theorem dX5_endIf_66 : decode cX5_endIf 66 = .ok (.getfield 80, 3) := by decide +kernel
theorem dX5_endIf_69 : decode cX5_endIf 69 = .ok (.iload_n 1, 1) := by decide +kernel
theorem dX5_endIf_70 : decode cX5_endIf 70 = .ok (.invokevirtual 144, 3) := by decide +kernel
theorem dX5_endIf_73 : decode cX5_endIf 73 = .ok (.ireturn, 1) := by decide +kernel
theorem okX5_endIf : CalOK yX5_endIf cX5_endIf 5 (some .int) 3 := ⟨wd_16, wd_334, by decide +kernel⟩
theorem ovX5_endIf : VirOK yX5_endIf := ⟨wd_332, wd_333⟩
def FX5_endIf (M : Mem) (l1 : Int32) (l2 : Int32) (l3 : Int32) : Option (Int32 × Mem) :=
  c1 (FX4_has (M 0) l1) fun r1 =>
  if r1 = 0 then
    some ((-1 : Int32), M)
  else
    c1 (FX4_has (M 0) l2) fun r4 =>
    if r4 = 0 then
      some ((-1 : Int32), M)
    else
      c1 (FX2_copyFrom (M 1) (M 0)) fun B9 =>
      lt1 (jb M 1 B9) fun M10 =>
      c2 (FX2_changeDuration (M10 1) l2 l3) fun r12 B14 =>
      lt1 (jb M10 1 B14) fun M15 =>
      if 0 ≤ r12 then
        c1 (FX4_endOf (M15 1) l1) fun r18 =>
        some (r18, M15)
      else
        some (r12, M15)
set_option maxRecDepth 100000 in
set_option maxHeartbeats 4000000 in
theorem wX5_endIf {E : WE} {V : VT} {A : Nat → Prop} {H0 : Heap} (Cx : CX E RX5 cX5_endIf 5 4 111) {r : Int32} {M' : Mem} (hret : RetI E V A H0 cX5_endIf .int r M') {H : Heap} {locs : List Loc} {ls : Array Slot} {l1 : Int32} {l2 : Int32} {l3 : Int32} {M : Mem} (hW : Wd V A H0 M (eS E) H locs) (hl : lv_has ls 5 [(0, .ref (vA V 11 0)), (1, .int l1), (2, .int l2), (3, .int l3)]) (hF : FX5_endIf M l1 l2 l3 = some (r, M')) : Wq E H locs 0 ls [] := by
  unfold FX5_endIf at hF
  refine q_aload_n Cx dX5_endIf_0 rfl (lv_at hl 0 rfl) ?_
  refine q_get (v := .ref (vA V 0 0)) Cx hW oX ic5 0 (by decide) rfl wd_189 dX5_endIf_1 ?_
  refine q_get (v := .ref (vA V 0 1)) Cx hW (oM (by decide)) ic2 0 (by decide) rfl wd_114 dX5_endIf_4 ?_
  refine q_iload_n Cx dX5_endIf_7 rfl (lv_at hl 1 rfl) ?_
  obtain ⟨r1, e2, hF⟩ := c1_some hF
  refine q_callI (as := [.int l1]) (rest := []) Cx (met_r (kX4_has (by decide) e2)) okX4_has ovX4_has wd_335 ⟨rfl, rfl, by decide, by decide⟩ hW (oP (by decide)) ic4 rfl hl.1 (Nat.le_of_ble_eq_true rfl) rfl dX5_endIf_8 (fun H locs hW => ?_)
  refine q_if_eq (tgt := 28) Cx dX5_endIf_11 (by decide) (fun c3 => ?_) (fun c3 => ?_)
  · have hF := (if_pos c3).symm.trans hF
    refine q_iconst (v := (-1 : Int32)) Cx dX5_endIf_28 (by decide) ?_
    obtain ⟨rfl, rfl⟩ := Prod.mk.inj (Option.some.inj hF)
    exact hret _ _ _ _ dX5_endIf_29 (nI32 _) hW
  · have hF := (if_neg c3).symm.trans hF
    refine q_aload_n Cx dX5_endIf_14 rfl (lv_at hl 0 rfl) ?_
    refine q_get (v := .ref (vA V 0 0)) Cx hW oX ic5 0 (by decide) rfl wd_189 dX5_endIf_15 ?_
    refine q_get (v := .ref (vA V 0 1)) Cx hW (oM (by decide)) ic2 0 (by decide) rfl wd_114 dX5_endIf_18 ?_
    refine q_iload_n Cx dX5_endIf_21 rfl (lv_at hl 2 rfl) ?_
    obtain ⟨r4, e5, hF⟩ := c1_some hF
    refine q_callI (as := [.int l2]) (rest := []) Cx (met_r (kX4_has (by decide) e5)) okX4_has ovX4_has wd_335 ⟨rfl, rfl, by decide, by decide⟩ hW (oP (by decide)) ic4 rfl hl.1 (Nat.le_of_ble_eq_true rfl) rfl dX5_endIf_22 (fun H locs hW => ?_)
    refine q_if_ne (tgt := 30) Cx dX5_endIf_25 (by decide) (fun c6 => ?_) (fun c6 => ?_)
    · have hF := (if_neg c6).symm.trans hF
      refine q_aload_n Cx dX5_endIf_30 rfl (lv_at hl 0 rfl) ?_
      refine q_get (v := .ref (vA V 1 0)) Cx hW oX ic5 1 (by decide) rfl wd_190 dX5_endIf_31 ?_
      refine q_aload_n Cx dX5_endIf_34 rfl (lv_at hl 0 rfl) ?_
      refine q_get (v := .ref (vA V 0 0)) Cx hW oX ic5 0 (by decide) rfl wd_189 dX5_endIf_35 ?_
      obtain ⟨B9, e8, hF⟩ := c1_some hF
      obtain ⟨M10, e11, hF⟩ := lt1_some hF
      have hq : MetV (eL E) V yX2_copyFrom cX2_copyFrom 2 ({ frames := 2, cells := 0, slots := 0, locals := 81 } : Room) (.ref (vA V 1 0) :: [.ref (vA V 0 0)]) M (jb M 1 B9) := (met_v (kX2_copyFrom (by decide) (by decide) (by decide) rfl e8))
      rw [← e11] at hq
      refine q_callV (as := [.ref (vA V 0 0)]) (rest := []) Cx hq okX2_copyFrom ovX2_copyFrom wd_336 ⟨rfl, rfl, by decide, by decide⟩ hW (oM (by decide)) ic2 rfl hl.1 (Nat.le_of_ble_eq_true rfl) rfl dX5_endIf_38 (fun H locs hW => ?_)
      refine q_aload_n Cx dX5_endIf_41 rfl (lv_at hl 0 rfl) ?_
      refine q_get (v := .ref (vA V 1 0)) Cx hW oX ic5 1 (by decide) rfl wd_190 dX5_endIf_42 ?_
      refine q_iload_n Cx dX5_endIf_45 rfl (lv_at hl 2 rfl) ?_
      refine q_iload_n Cx dX5_endIf_46 rfl (lv_at hl 3 rfl) ?_
      obtain ⟨r12, B14, e13, hF⟩ := c2_some hF
      obtain ⟨M15, e16, hF⟩ := lt1_some hF
      have hq : MetI (eL E) V yX2_changeDuration cX2_changeDuration 4 .int ({ frames := 3, cells := 0, slots := 0, locals := 88 } : Room) (.ref (vA V 1 0) :: [.int l2, .int l3]) r12 M10 (jb M10 1 B14) := (met_w (kX2_changeDuration (by decide) e13))
      rw [← e16] at hq
      refine q_callI (as := [.int l2, .int l3]) (rest := []) Cx hq okX2_changeDuration ovX2_changeDuration wd_245 ⟨rfl, rfl, by decide, by decide⟩ hW (oM (by decide)) ic2 rfl hl.1 (Nat.le_of_ble_eq_true rfl) rfl dX5_endIf_47 (fun H locs hW => ?_)
      refine q_istore (lv' := [(4, .int r12), (0, .ref (vA V 11 0)), (1, .int l1), (2, .int l2), (3, .int l3)]) Cx dX5_endIf_50 hl (by decide) rfl (fun ls hl => ?_)
      refine q_iload Cx dX5_endIf_52 (lv_at hl 0 rfl) ?_
      refine q_if_ge (tgt := 62) Cx dX5_endIf_54 (by decide) (fun c17 => ?_) (fun c17 => ?_)
      · have hF := (if_pos c17).symm.trans hF
        refine q_aload_n Cx dX5_endIf_62 rfl (lv_at hl 1 rfl) ?_
        refine q_get (v := .ref (vA V 1 0)) Cx hW oX ic5 1 (by decide) rfl wd_190 dX5_endIf_63 ?_
        refine q_get (v := .ref (vA V 1 1)) Cx hW (oM (by decide)) ic2 0 (by decide) rfl wd_114 dX5_endIf_66 ?_
        refine q_iload_n Cx dX5_endIf_69 rfl (lv_at hl 2 rfl) ?_
        obtain ⟨r18, e19, hF⟩ := c1_some hF
        refine q_callI (as := [.int l1]) (rest := []) Cx (met_r (kX4_endOf (by decide) e19)) okX4_endOf ovX4_endOf wd_337 ⟨rfl, rfl, by decide, by decide⟩ hW (oP (by decide)) ic4 rfl hl.1 (Nat.le_of_ble_eq_true rfl) rfl dX5_endIf_70 (fun H locs hW => ?_)
        obtain ⟨rfl, rfl⟩ := Prod.mk.inj (Option.some.inj hF)
        exact hret _ _ _ _ dX5_endIf_73 (nI32 _) hW
      · have hF := (if_neg c17).symm.trans hF
        refine q_iload Cx dX5_endIf_57 (lv_at hl 0 rfl) ?_
        refine q_goto (tgt := 73) Cx dX5_endIf_59 (by decide) ?_
        obtain ⟨rfl, rfl⟩ := Prod.mk.inj (Option.some.inj hF)
        exact hret _ _ _ _ dX5_endIf_73 (nI32 _) hW
    · have hF := (if_pos c6).symm.trans hF
      refine q_iconst (v := (-1 : Int32)) Cx dX5_endIf_28 (by decide) ?_
      obtain ⟨rfl, rfl⟩ := Prod.mk.inj (Option.some.inj hF)
      exact hret _ _ _ _ dX5_endIf_29 (nI32 _) hW
set_option maxRecDepth 100000 in
theorem kX5_endIf {l : Launch} {V : VT} {M : Mem} {l1 : Int32} {l2 : Int32} {l3 : Int32} {r : Int32} {M' : Mem} (hF : FX5_endIf M l1 l2 l3 = some (r, M')) : MetI l V yX5_endIf cX5_endIf 5 .int ({ frames := 4, cells := 0, slots := 0, locals := 111 } : Room) [.ref (vA V 11 0), .int l1, .int l2, .int l3] r M M' := metI_of (by decide) (Nat.le_of_ble_eq_true rfl) (fun E H0 _ Cx hret H locs ls hW hl => wX5_endIf Cx hret hW hl hF)
theorem dX5_bestPlace_0 : decode cX5_bestPlace 0 = .ok (.aload_n 0, 1) := by decide +kernel
theorem dX5_bestPlace_1 : decode cX5_bestPlace 1 = .ok (.getfield 12, 3) := by decide +kernel
theorem dX5_bestPlace_4 : decode cX5_bestPlace 4 = .ok (.getfield 80, 3) := by decide +kernel
theorem dX5_bestPlace_7 : decode cX5_bestPlace 7 = .ok (.iload_n 1, 1) := by decide +kernel
theorem dX5_bestPlace_8 : decode cX5_bestPlace 8 = .ok (.invokevirtual 84, 3) := by decide +kernel
theorem dX5_bestPlace_11 : decode cX5_bestPlace 11 = .ok (.ifCond .ne 5, 3) := by decide +kernel
theorem dX5_bestPlace_14 : decode cX5_bestPlace 14 = .ok (.iconst (-1), 1) := by decide +kernel
theorem dX5_bestPlace_15 : decode cX5_bestPlace 15 = .ok (.ireturn, 1) := by decide +kernel
theorem dX5_bestPlace_16 : decode cX5_bestPlace 16 = .ok (.aload_n 0, 1) := by decide +kernel
theorem dX5_bestPlace_17 : decode cX5_bestPlace 17 = .ok (.getfield 16, 3) := by decide +kernel
theorem dX5_bestPlace_20 : decode cX5_bestPlace 20 = .ok (.aload_n 0, 1) := by decide +kernel
theorem dX5_bestPlace_21 : decode cX5_bestPlace 21 = .ok (.getfield 12, 3) := by decide +kernel
theorem dX5_bestPlace_24 : decode cX5_bestPlace 24 = .ok (.invokevirtual 128, 3) := by decide +kernel
theorem dX5_bestPlace_27 : decode cX5_bestPlace 27 = .ok (.aload_n 0, 1) := by decide +kernel
theorem dX5_bestPlace_28 : decode cX5_bestPlace 28 = .ok (.getfield 16, 3) := by decide +kernel
theorem dX5_bestPlace_31 : decode cX5_bestPlace 31 = .ok (.iload_n 1, 1) := by decide +kernel
theorem dX5_bestPlace_32 : decode cX5_bestPlace 32 = .ok (.invokevirtual 147, 3) := by decide +kernel
theorem dX5_bestPlace_35 : decode cX5_bestPlace 35 = .ok (.ireturn, 1) := by decide +kernel
theorem okX5_bestPlace : CalOK yX5_bestPlace cX5_bestPlace 2 (some .int) 1 := ⟨wd_16, wd_469, by decide +kernel⟩
theorem ovX5_bestPlace : VirOK yX5_bestPlace := ⟨wd_467, wd_468⟩
def FX5_bestPlace (M : Mem) (l1 : Int32) : Option (Int32 × Mem) :=
  c1 (FX4_has (M 0) l1) fun r1 =>
  if r1 = 0 then
    some ((-1 : Int32), M)
  else
    c1 (FX2_copyFrom (M 1) (M 0)) fun B6 =>
    lt1 (jb M 1 B6) fun M7 =>
    c2 (FX2_findBestPlace (M7 1) l1) fun r9 B11 =>
    lt1 (jb M7 1 B11) fun M12 =>
    some (r9, M12)
set_option maxRecDepth 100000 in
set_option maxHeartbeats 4000000 in
theorem wX5_bestPlace {E : WE} {V : VT} {A : Nat → Prop} {H0 : Heap} (Cx : CX E RX5 cX5_bestPlace 2 4 112) {r : Int32} {M' : Mem} (hret : RetI E V A H0 cX5_bestPlace .int r M') {H : Heap} {locs : List Loc} {ls : Array Slot} {l1 : Int32} {M : Mem} (hW : Wd V A H0 M (eS E) H locs) (hl : lv_has ls 2 [(0, .ref (vA V 11 0)), (1, .int l1)]) (hF : FX5_bestPlace M l1 = some (r, M')) : Wq E H locs 0 ls [] := by
  unfold FX5_bestPlace at hF
  refine q_aload_n Cx dX5_bestPlace_0 rfl (lv_at hl 0 rfl) ?_
  refine q_get (v := .ref (vA V 0 0)) Cx hW oX ic5 0 (by decide) rfl wd_189 dX5_bestPlace_1 ?_
  refine q_get (v := .ref (vA V 0 1)) Cx hW (oM (by decide)) ic2 0 (by decide) rfl wd_114 dX5_bestPlace_4 ?_
  refine q_iload_n Cx dX5_bestPlace_7 rfl (lv_at hl 1 rfl) ?_
  obtain ⟨r1, e2, hF⟩ := c1_some hF
  refine q_callI (as := [.int l1]) (rest := []) Cx (met_r (kX4_has (by decide) e2)) okX4_has ovX4_has wd_335 ⟨rfl, rfl, by decide, by decide⟩ hW (oP (by decide)) ic4 rfl hl.1 (Nat.le_of_ble_eq_true rfl) rfl dX5_bestPlace_8 (fun H locs hW => ?_)
  refine q_if_ne (tgt := 16) Cx dX5_bestPlace_11 (by decide) (fun c3 => ?_) (fun c3 => ?_)
  · have hF := (if_neg c3).symm.trans hF
    refine q_aload_n Cx dX5_bestPlace_16 rfl (lv_at hl 0 rfl) ?_
    refine q_get (v := .ref (vA V 1 0)) Cx hW oX ic5 1 (by decide) rfl wd_190 dX5_bestPlace_17 ?_
    refine q_aload_n Cx dX5_bestPlace_20 rfl (lv_at hl 0 rfl) ?_
    refine q_get (v := .ref (vA V 0 0)) Cx hW oX ic5 0 (by decide) rfl wd_189 dX5_bestPlace_21 ?_
    obtain ⟨B6, e5, hF⟩ := c1_some hF
    obtain ⟨M7, e8, hF⟩ := lt1_some hF
    have hq : MetV (eL E) V yX2_copyFrom cX2_copyFrom 2 ({ frames := 2, cells := 0, slots := 0, locals := 81 } : Room) (.ref (vA V 1 0) :: [.ref (vA V 0 0)]) M (jb M 1 B6) := (met_v (kX2_copyFrom (by decide) (by decide) (by decide) rfl e5))
    rw [← e8] at hq
    refine q_callV (as := [.ref (vA V 0 0)]) (rest := []) Cx hq okX2_copyFrom ovX2_copyFrom wd_336 ⟨rfl, rfl, by decide, by decide⟩ hW (oM (by decide)) ic2 rfl hl.1 (Nat.le_of_ble_eq_true rfl) rfl dX5_bestPlace_24 (fun H locs hW => ?_)
    refine q_aload_n Cx dX5_bestPlace_27 rfl (lv_at hl 0 rfl) ?_
    refine q_get (v := .ref (vA V 1 0)) Cx hW oX ic5 1 (by decide) rfl wd_190 dX5_bestPlace_28 ?_
    refine q_iload_n Cx dX5_bestPlace_31 rfl (lv_at hl 1 rfl) ?_
    obtain ⟨r9, B11, e10, hF⟩ := c2_some hF
    obtain ⟨M12, e13, hF⟩ := lt1_some hF
    have hq : MetI (eL E) V yX2_findBestPlace cX2_findBestPlace 5 .int ({ frames := 3, cells := 0, slots := 0, locals := 88 } : Room) (.ref (vA V 1 0) :: [.int l1]) r9 M7 (jb M7 1 B11) := (met_w (kX2_findBestPlace (by decide) e10))
    rw [← e13] at hq
    refine q_callI (as := [.int l1]) (rest := []) Cx hq okX2_findBestPlace ovX2_findBestPlace wd_470 ⟨rfl, rfl, by decide, by decide⟩ hW (oM (by decide)) ic2 rfl hl.1 (Nat.le_of_ble_eq_true rfl) rfl dX5_bestPlace_32 (fun H locs hW => ?_)
    obtain ⟨rfl, rfl⟩ := Prod.mk.inj (Option.some.inj hF)
    exact hret _ _ _ _ dX5_bestPlace_35 (nI32 _) hW
  · have hF := (if_pos c3).symm.trans hF
    refine q_iconst (v := (-1 : Int32)) Cx dX5_bestPlace_14 (by decide) ?_
    obtain ⟨rfl, rfl⟩ := Prod.mk.inj (Option.some.inj hF)
    exact hret _ _ _ _ dX5_bestPlace_15 (nI32 _) hW
set_option maxRecDepth 100000 in
theorem kX5_bestPlace {l : Launch} {V : VT} {M : Mem} {l1 : Int32} {r : Int32} {M' : Mem} (hF : FX5_bestPlace M l1 = some (r, M')) : MetI l V yX5_bestPlace cX5_bestPlace 2 .int ({ frames := 4, cells := 0, slots := 0, locals := 112 } : Room) [.ref (vA V 11 0), .int l1] r M M' := metI_of (by decide) (Nat.le_of_ble_eq_true rfl) (fun E H0 _ Cx hret H locs ls hW hl => wX5_bestPlace Cx hret hW hl hF)
theorem dX5_critical_0 : decode cX5_critical 0 = .ok (.aload_n 0, 1) := by decide +kernel
theorem dX5_critical_1 : decode cX5_critical 1 = .ok (.getfield 12, 3) := by decide +kernel
theorem dX5_critical_4 : decode cX5_critical 4 = .ok (.getfield 80, 3) := by decide +kernel
theorem dX5_critical_7 : decode cX5_critical 7 = .ok (.invokevirtual 150, 3) := by decide +kernel
theorem dX5_critical_10 : decode cX5_critical 10 = .ok (.ireturn, 1) := by decide +kernel
theorem okX5_critical : CalOK yX5_critical cX5_critical 1 (some .int) 0 := ⟨wd_16, wd_341, by decide +kernel⟩
theorem ovX5_critical : VirOK yX5_critical := ⟨wd_339, wd_340⟩
def FX5_critical (M : Mem) : Option Int32 :=
  c1 (FX4_longestChain (M 0)) fun r1 =>
  some r1
set_option maxRecDepth 100000 in
set_option maxHeartbeats 4000000 in
theorem wX5_critical {E : WE} {V : VT} {A : Nat → Prop} {H0 : Heap} {M : Mem} (Cx : CX E RX5 cX5_critical 1 5 115) {r : Int32} (hret : RetI E V A H0 cX5_critical .int r M) {H : Heap} {locs : List Loc} {ls : Array Slot} (hW : Wd V A H0 M (eS E) H locs) (hl : lv_has ls 1 [(0, .ref (vA V 11 0))]) (hF : FX5_critical M = some r) : Wq E H locs 0 ls [] := by
  unfold FX5_critical at hF
  refine q_aload_n Cx dX5_critical_0 rfl (lv_at hl 0 rfl) ?_
  refine q_get (v := .ref (vA V 0 0)) Cx hW oX ic5 0 (by decide) rfl wd_189 dX5_critical_1 ?_
  refine q_get (v := .ref (vA V 0 1)) Cx hW (oM (by decide)) ic2 0 (by decide) rfl wd_114 dX5_critical_4 ?_
  obtain ⟨r1, e2, hF⟩ := c1_some hF
  refine q_callI (as := []) (rest := []) Cx (met_r (kX4_longestChain (by decide) e2)) okX4_longestChain ovX4_longestChain wd_342 ⟨rfl, rfl, by decide, by decide⟩ hW (oP (by decide)) ic4 rfl hl.1 (Nat.le_of_ble_eq_true rfl) rfl dX5_critical_7 (fun H locs hW => ?_)
  obtain rfl := Option.some.inj hF
  exact hret _ _ _ _ dX5_critical_10 (nI32 _) hW
set_option maxRecDepth 100000 in
theorem kX5_critical {l : Launch} {V : VT} {M : Mem} {r : Int32} (hF : FX5_critical M = some r) : MetI l V yX5_critical cX5_critical 1 .int ({ frames := 5, cells := 0, slots := 0, locals := 115 } : Room) [.ref (vA V 11 0)] r M M := metI_of (by decide) (Nat.le_of_ble_eq_true rfl) (fun E H0 _ Cx hret H locs ls hW hl => wX5_critical Cx hret hW hl hF)
theorem dX5_lateBehind_0 : decode cX5_lateBehind 0 = .ok (.aload_n 0, 1) := by decide +kernel
theorem dX5_lateBehind_1 : decode cX5_lateBehind 1 = .ok (.getfield 16, 3) := by decide +kernel
theorem dX5_lateBehind_4 : decode cX5_lateBehind 4 = .ok (.aload_n 0, 1) := by decide +kernel
theorem dX5_lateBehind_5 : decode cX5_lateBehind 5 = .ok (.getfield 12, 3) := by decide +kernel
theorem dX5_lateBehind_8 : decode cX5_lateBehind 8 = .ok (.invokevirtual 128, 3) := by decide +kernel
theorem dX5_lateBehind_11 : decode cX5_lateBehind 11 = .ok (.aload_n 0, 1) := by decide +kernel
theorem dX5_lateBehind_12 : decode cX5_lateBehind 12 = .ok (.getfield 16, 3) := by decide +kernel
theorem dX5_lateBehind_15 : decode cX5_lateBehind 15 = .ok (.invokevirtual 67, 3) := by decide +kernel
theorem dX5_lateBehind_18 : decode cX5_lateBehind 18 = .ok (.pop, 1) := by decide +kernel
theorem dX5_lateBehind_19 : decode cX5_lateBehind 19 = .ok (.aload_n 0, 1) := by decide +kernel
theorem dX5_lateBehind_20 : decode cX5_lateBehind 20 = .ok (.getfield 16, 3) := by decide +kernel
theorem dX5_lateBehind_23 : decode cX5_lateBehind 23 = .ok (.invokevirtual 153, 3) := by decide +kernel
theorem dX5_lateBehind_26 : decode cX5_lateBehind 26 = .ok (.ireturn, 1) := by decide +kernel
theorem okX5_lateBehind : CalOK yX5_lateBehind cX5_lateBehind 1 (some .int) 0 := ⟨wd_16, wd_483, by decide +kernel⟩
theorem ovX5_lateBehind : VirOK yX5_lateBehind := ⟨wd_481, wd_482⟩
def FX5_lateBehind (M : Mem) : Option (Int32 × Mem) :=
  c1 (FX2_copyFrom (M 1) (M 0)) fun B3 =>
  lt1 (jb M 1 B3) fun M4 =>
  c2 (FX2_tradeAll (M4 1)) fun r6 B8 =>
  lt1 (jb M4 1 B8) fun M9 =>
  c1 (FX2_lateTogether (M9 1)) fun r11 =>
  some (r11, M9)
set_option maxRecDepth 100000 in
set_option maxHeartbeats 4000000 in
theorem wX5_lateBehind {E : WE} {V : VT} {A : Nat → Prop} {H0 : Heap} (Cx : CX E RX5 cX5_lateBehind 1 5 133) {r : Int32} {M' : Mem} (hret : RetI E V A H0 cX5_lateBehind .int r M') {H : Heap} {locs : List Loc} {ls : Array Slot} {M : Mem} (hW : Wd V A H0 M (eS E) H locs) (hl : lv_has ls 1 [(0, .ref (vA V 11 0))]) (hF : FX5_lateBehind M = some (r, M')) : Wq E H locs 0 ls [] := by
  unfold FX5_lateBehind at hF
  refine q_aload_n Cx dX5_lateBehind_0 rfl (lv_at hl 0 rfl) ?_
  refine q_get (v := .ref (vA V 1 0)) Cx hW oX ic5 1 (by decide) rfl wd_190 dX5_lateBehind_1 ?_
  refine q_aload_n Cx dX5_lateBehind_4 rfl (lv_at hl 0 rfl) ?_
  refine q_get (v := .ref (vA V 0 0)) Cx hW oX ic5 0 (by decide) rfl wd_189 dX5_lateBehind_5 ?_
  obtain ⟨B3, e2, hF⟩ := c1_some hF
  obtain ⟨M4, e5, hF⟩ := lt1_some hF
  have hq : MetV (eL E) V yX2_copyFrom cX2_copyFrom 2 ({ frames := 2, cells := 0, slots := 0, locals := 81 } : Room) (.ref (vA V 1 0) :: [.ref (vA V 0 0)]) M (jb M 1 B3) := (met_v (kX2_copyFrom (by decide) (by decide) (by decide) rfl e2))
  rw [← e5] at hq
  refine q_callV (as := [.ref (vA V 0 0)]) (rest := []) Cx hq okX2_copyFrom ovX2_copyFrom wd_336 ⟨rfl, rfl, by decide, by decide⟩ hW (oM (by decide)) ic2 rfl hl.1 (Nat.le_of_ble_eq_true rfl) rfl dX5_lateBehind_8 (fun H locs hW => ?_)
  refine q_aload_n Cx dX5_lateBehind_11 rfl (lv_at hl 0 rfl) ?_
  refine q_get (v := .ref (vA V 1 0)) Cx hW oX ic5 1 (by decide) rfl wd_190 dX5_lateBehind_12 ?_
  obtain ⟨r6, B8, e7, hF⟩ := c2_some hF
  obtain ⟨M9, e10, hF⟩ := lt1_some hF
  have hq : MetI (eL E) V yX2_tradeAll cX2_tradeAll 5 .int ({ frames := 4, cells := 0, slots := 0, locals := 109 } : Room) (.ref (vA V 1 0) :: []) r6 M4 (jb M4 1 B8) := (met_w (kX2_tradeAll (by decide) e7))
  rw [← e10] at hq
  refine q_callI (as := []) (rest := []) Cx hq okX2_tradeAll ovX2_tradeAll wd_484 ⟨rfl, rfl, by decide, by decide⟩ hW (oM (by decide)) ic2 rfl hl.1 (Nat.le_of_ble_eq_true rfl) rfl dX5_lateBehind_15 (fun H locs hW => ?_)
  refine q_pop Cx dX5_lateBehind_18 rfl ?_
  refine q_aload_n Cx dX5_lateBehind_19 rfl (lv_at hl 0 rfl) ?_
  refine q_get (v := .ref (vA V 1 0)) Cx hW oX ic5 1 (by decide) rfl wd_190 dX5_lateBehind_20 ?_
  obtain ⟨r11, e12, hF⟩ := c1_some hF
  refine q_callI (as := []) (rest := []) Cx (met_r (kX2_lateTogether (by decide) e12)) okX2_lateTogether ovX2_lateTogether wd_524 ⟨rfl, rfl, by decide, by decide⟩ hW (oM (by decide)) ic2 rfl hl.1 (Nat.le_of_ble_eq_true rfl) rfl dX5_lateBehind_23 (fun H locs hW => ?_)
  obtain ⟨rfl, rfl⟩ := Prod.mk.inj (Option.some.inj hF)
  exact hret _ _ _ _ dX5_lateBehind_26 (nI32 _) hW
set_option maxRecDepth 100000 in
theorem kX5_lateBehind {l : Launch} {V : VT} {M : Mem} {r : Int32} {M' : Mem} (hF : FX5_lateBehind M = some (r, M')) : MetI l V yX5_lateBehind cX5_lateBehind 1 .int ({ frames := 5, cells := 0, slots := 0, locals := 133 } : Room) [.ref (vA V 11 0)] r M M' := metI_of (by decide) (Nat.le_of_ble_eq_true rfl) (fun E H0 _ Cx hret H locs ls hW hl => wX5_lateBehind Cx hret hW hl hF)
theorem dX5_undo_0 : decode cX5_undo 0 = .ok (.aload_n 0, 1) := by decide +kernel
theorem dX5_undo_1 : decode cX5_undo 1 = .ok (.getfield 22, 3) := by decide +kernel
theorem dX5_undo_4 : decode cX5_undo 4 = .ok (.aload_n 0, 1) := by decide +kernel
theorem dX5_undo_5 : decode cX5_undo 5 = .ok (.getfield 12, 3) := by decide +kernel
theorem dX5_undo_8 : decode cX5_undo 8 = .ok (.invokevirtual 188, 3) := by decide +kernel
theorem dX5_undo_11 : decode cX5_undo 11 = .ok (.ireturn, 1) := by decide +kernel
theorem okX5_undo : CalOK yX5_undo cX5_undo 1 (some .int) 0 := ⟨wd_16, wd_359, by decide +kernel⟩
theorem ovX5_undo : VirOK yX5_undo := ⟨wd_357, wd_358⟩
def FX5_undo (M : Mem) : Option (Int32 × Mem) :=
  c2 (FX1_takeBack M) fun r1 M3 =>
  some (r1, M3)
set_option maxRecDepth 100000 in
set_option maxHeartbeats 4000000 in
theorem wX5_undo {E : WE} {V : VT} {A : Nat → Prop} {H0 : Heap} (Cx : CX E RX5 cX5_undo 1 4 123) {r : Int32} {M' : Mem} (hret : RetI E V A H0 cX5_undo .int r M') {H : Heap} {locs : List Loc} {ls : Array Slot} {M : Mem} (hW : Wd V A H0 M (eS E) H locs) (hl : lv_has ls 1 [(0, .ref (vA V 11 0))]) (hF : FX5_undo M = some (r, M')) : Wq E H locs 0 ls [] := by
  unfold FX5_undo at hF
  refine q_aload_n Cx dX5_undo_0 rfl (lv_at hl 0 rfl) ?_
  refine q_get (v := .ref (vA V 11 3)) Cx hW oX ic5 2 (by decide) rfl wd_191 dX5_undo_1 ?_
  refine q_aload_n Cx dX5_undo_4 rfl (lv_at hl 0 rfl) ?_
  refine q_get (v := .ref (vA V 0 0)) Cx hW oX ic5 0 (by decide) rfl wd_189 dX5_undo_5 ?_
  obtain ⟨r1, M3, e2, hF⟩ := c2_some hF
  refine q_callI (as := [.ref (vA V 0 0)]) (rest := []) Cx (kX1_takeBack e2) okX1_takeBack ovX1_takeBack wd_360 ⟨rfl, rfl, by decide, by decide⟩ hW oH ic1 rfl hl.1 (Nat.le_of_ble_eq_true rfl) rfl dX5_undo_8 (fun H locs hW => ?_)
  obtain ⟨rfl, rfl⟩ := Prod.mk.inj (Option.some.inj hF)
  exact hret _ _ _ _ dX5_undo_11 (nI32 _) hW
set_option maxRecDepth 100000 in
theorem kX5_undo {l : Launch} {V : VT} {M : Mem} {r : Int32} {M' : Mem} (hF : FX5_undo M = some (r, M')) : MetI l V yX5_undo cX5_undo 1 .int ({ frames := 4, cells := 0, slots := 0, locals := 123 } : Room) [.ref (vA V 11 0)] r M M' := metI_of (by decide) (Nat.le_of_ble_eq_true rfl) (fun E H0 _ Cx hret H locs ls hW hl => wX5_undo Cx hret hW hl hF)
